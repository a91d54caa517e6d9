import java.util.Arrays;

/**
 * A picture carried by a net of triangles whose knots are moved.
 * The words in capitals of the document are used here in small letters.
 */
public final class BentPicture {
    /** There is none. */
    public static final int NONE = -1;

    private static final int FIRST_W = 5;
    private static final int FIRST_H = 4;
    private static final int LEAST_SIDE = 2;
    private static final int MOST_SIDE = 20;
    private static final int MOST_DOTS = MOST_SIDE * MOST_SIDE;
    private static final int MOST_VALUE = 15;
    private static final int CORNERS = 4;
    private static final int MOST_KNOTS = 30;
    private static final int MOST_GOES = 100;
    private static final int MOST_STEP = 3;
    private static final int WAY = 8;

    // A knot's number takes five bits, so rows of 32 have a place for every number that can be unpacked.
    private static final int KNOT_BITS = 5;
    private static final int KNOT_ROW = 1 << KNOT_BITS;
    private static final int KNOT_MASK = KNOT_ROW - 1;
    // 30 knots, 4 of them on the rim, make 54 triangles at the most.
    private static final int TRIANGLE_ROW = 64;

    private final Net net;
    private final Cover cover;
    private final Spot spot;
    private final int[] values;
    private final int[] near;
    private final int[] useCounts;
    private final int[] spare;
    private boolean charted;

    public BentPicture() {
        net = new Net();
        cover = new Cover();
        spot = new Spot();
        values = new int[MOST_DOTS];
        near = new int[MOST_DOTS];
        useCounts = new int[MOST_DOTS];
        spare = new int[MOST_DOTS];
        net.begin(FIRST_W, FIRST_H);
        charted = false;
    }

    public boolean size(int w, int h) {
        if (w < LEAST_SIDE || w > MOST_SIDE || h < LEAST_SIDE || h > MOST_SIDE) {
            return false;
        }
        net.begin(w, h);
        Arrays.fill(values, 0);
        charted = false;
        return true;
    }

    public int paint(int x, int y, int value) {
        if (!net.isDot(x, y) || value < 0 || value > MOST_VALUE) {
            return NONE;
        }
        int dot = net.dotNumber(x, y);
        int before = values[dot];
        values[dot] = value;
        return before;
    }

    public int weave(int seed) {
        for (int y = 0; y < net.h; y++) {
            for (int x = 0; x < net.w; x++) {
                // Wrap-around does no harm: 16 divides the range of int.
                values[net.dotNumber(x, y)] = Math.floorMod(7 * x + 13 * y + x * y + seed, MOST_VALUE + 1);
            }
        }
        return sumOfValues();
    }

    public int value(int x, int y, boolean bent) {
        if (!net.isDot(x, y)) {
            return NONE;
        }
        int dot = net.dotNumber(x, y);
        if (!bent) {
            return values[dot];
        }
        chart();
        return values[near[dot]];
    }

    // ---- the net

    public int insert(int homeX, int homeY, int x, int y) {
        int reason = net.reasonToInsert(homeX, homeY, x, y);
        if (reason != 0) {
            return -reason;
        }
        charted = false;
        return net.putKnot(homeX, homeY, x, y);
    }

    public int move(int knot, int x, int y) {
        int reason = net.reasonToMove(knot, x, y);
        if (reason == 0) {
            net.places.put(knot, x, y);
            charted = false;
        }
        return reason;
    }

    public int turn(int one, int other) {
        int reason = net.reasonToTurn(one, other);
        if (reason == 0) {
            net.turnEdge(one, other);
            charted = false;
        }
        return reason;
    }

    public int out(int knot) {
        int reason = net.reasonToTakeOut(knot);
        if (reason == 0) {
            net.takeOut(knot);
            charted = false;
        }
        return reason;
    }

    public int straight() {
        int bentKnots = net.bentKnots();
        for (int k = 0; k < net.knots; k++) {
            net.places.put(k, net.homes.xs[k], net.homes.ys[k]);
        }
        charted = false;
        return bentKnots;
    }

    public int carry() {
        chart();
        int dots = net.dots();
        for (int d = 0; d < dots; d++) {
            spare[d] = values[near[d]];
        }
        int changed = 0;
        for (int d = 0; d < dots; d++) {
            if (values[d] != spare[d]) {
                values[d] = spare[d];
                changed++;
            }
        }
        return changed;
    }

    public int knot(int knot, int what) {
        if (!net.isKnot(knot)) {
            return NONE;
        }
        switch (what) {
            case 0:
                return net.homes.xs[knot];
            case 1:
                return net.homes.ys[knot];
            case 2:
                return net.places.xs[knot];
            case 3:
                return net.places.ys[knot];
            case 4:
                return net.trianglesOf(knot);
            case 5:
                return net.kindOf(knot);
            default:
                return NONE;
        }
    }

    public int triangle(int triangle, int what) {
        if (!net.triangles.isOne(triangle)) {
            return NONE;
        }
        switch (what) {
            case 0:
                return net.triangles.first(triangle);
            case 1:
                return net.triangles.second(triangle);
            case 2:
                return net.triangles.third(triangle);
            case 3:
                return net.areaOf(net.homes, triangle);
            case 4:
                return net.areaOf(net.places, triangle);
            case 5:
                chart();
                return cover.dotsIn(triangle, net.dots());
            default:
                return NONE;
        }
    }

    public int edge(int one, int other, int what) {
        if (!net.isKnot(one) || !net.isKnot(other)) {
            return NONE;
        }
        int holders = net.triangles.holdersOf(one, other);
        if (holders == 0) {
            return NONE;
        }
        switch (what) {
            case 0:
                return holders;
            case 1:
                return net.homes.squareOfLength(one, other);
            case 2:
                return net.places.squareOfLength(one, other);
            case 3:
                return net.reasonToTurn(one, other) == 0 ? 1 : 0;
            default:
                return NONE;
        }
    }

    public int count(int what) {
        switch (what) {
            case 0:
                return net.w;
            case 1:
                return net.h;
            case 2:
                return net.knots;
            case 3:
                return net.triangles.held;
            case 4:
                return net.edges();
            case 5:
                return net.edgesToTurn();
            case 6:
                return net.bentKnots();
            case 7:
                return sumOfValues();
            case 8:
                return sumOfTakenValues();
            case 9:
                chart();
                return cover.dotsOfMany(net.dots());
            default:
                return NONE;
        }
    }

    // ---- dots

    public int find(int x, int y, boolean home) {
        if (!net.isDot(x, y)) {
            return NONE;
        }
        if (home) {
            return net.leastHolder(net.homes, x, y);
        }
        chart();
        return cover.lies[net.dotNumber(x, y)];
    }

    public int share(int x, int y, int what) {
        if (!net.isDot(x, y)) {
            return NONE;
        }
        measureByPlaces(x, y);
        spot.shortenShares();
        switch (what) {
            case 0:
                return spot.first;
            case 1:
                return spot.second;
            case 2:
                return spot.third;
            case 3:
                return spot.whole;
            default:
                return NONE;
        }
    }

    public int from(int x, int y, int what) {
        if (!net.isDot(x, y)) {
            return NONE;
        }
        measureByPlaces(x, y);
        spot.mix(net, net.homes);
        return spot.told(what);
    }

    public int to(int x, int y, int what) {
        if (!net.isDot(x, y)) {
            return NONE;
        }
        spot.measure(net, net.homes, net.leastHolder(net.homes, x, y), x, y);
        spot.mix(net, net.places);
        return spot.told(what);
    }

    public int nearest(int x, int y) {
        if (!net.isDot(x, y)) {
            return NONE;
        }
        chart();
        return near[net.dotNumber(x, y)];
    }

    public int blend(int x, int y, int what) {
        if (!net.isDot(x, y) || what < 0 || what > 1) {
            return NONE;
        }
        measureByPlaces(x, y);
        spot.mix(net, net.homes);
        int above = blendAbove();
        int below = spot.below * spot.below;
        return shortened(what == 0 ? above : below, divisorOf(above, below));
    }

    public int uses(int x, int y) {
        if (!net.isDot(x, y)) {
            return NONE;
        }
        chart();
        countUses();
        return useCounts[net.dotNumber(x, y)];
    }

    public int lost() {
        chart();
        countUses();
        int unused = 0;
        for (int d = 0; d < net.dots(); d++) {
            if (useCounts[d] == 0) {
                unused++;
            }
        }
        return unused;
    }

    public int trace(int x, int y, int n) {
        if (!net.isDot(x, y) || n < 0 || n > MOST_GOES) {
            return NONE;
        }
        chart();
        int dot = net.dotNumber(x, y);
        for (int i = 0; i < n; i++) {
            dot = near[dot];
        }
        return dot;
    }

    public int loops() {
        chart();
        countUses();
        int dots = net.dots();
        int waiting = 0;
        for (int d = 0; d < dots; d++) {
            if (useCounts[d] == 0) {
                spare[waiting] = d;
                waiting++;
            }
        }
        // No trace comes back to a dot that no dot (but such ones) goes to: taking those away leaves the loops.
        for (int i = 0; i < waiting && i < dots; i++) {
            int next = near[spare[i]];
            useCounts[next]--;
            if (useCounts[next] == 0 && waiting < dots) {
                spare[waiting] = next;
                waiting++;
            }
        }
        return dots - waiting;
    }

    // ---- what would be

    public int room(int knot, int i) {
        if (!net.isKnot(knot) || i < NONE) {
            return NONE;
        }
        net.linkOf(knot);
        int places = 0;
        for (int y = 0; y < net.h; y++) {
            for (int x = 0; x < net.w; x++) {
                if (net.isRoom(knot, x, y)) {
                    if (places == i) {
                        return net.dotNumber(x, y);
                    }
                    places++;
                }
            }
        }
        return i == NONE ? places : NONE;
    }

    public int reach(int knot, int dx, int dy) {
        boolean isStep = dx >= -MOST_STEP && dx <= MOST_STEP && dy >= -MOST_STEP && dy <= MOST_STEP;
        if (!net.isKnot(knot) || !isStep || (dx == 0 && dy == 0)) {
            return NONE;
        }
        net.linkOf(knot);
        int x = net.places.xs[knot];
        int y = net.places.ys[knot];
        int moves = 0;
        for (int i = 1; i <= MOST_SIDE; i++) {
            if (net.reasonByLink(knot, x + i * dx, y + i * dy) != 0) {
                break;
            }
            moves = i;
        }
        return moves;
    }

    public int bent(int t) {
        return t < 0 || t > WAY ? NONE : net.bentTriangles(t);
    }

    public int stretch(int what) {
        if (what < 0 || what > 5) {
            return NONE;
        }
        boolean least = what == 1 || what >= 4;
        int extreme = net.extremeTriangle(least);
        if (what < 2) {
            return extreme;
        }
        int above = net.areaOf(net.places, extreme);
        int below = net.areaOf(net.homes, extreme);
        boolean tellsAbove = what == 2 || what == 4;
        return shortened(tellsAbove ? above : below, divisorOf(above, below));
    }

    // ---- what the calls share

    /** Tells of each dot where it lies and which dot is its nearest, once after each act. */
    private void chart() {
        if (charted) {
            return;
        }
        cover.fill(net);
        for (int y = 0; y < net.h; y++) {
            for (int x = 0; x < net.w; x++) {
                int dot = net.dotNumber(x, y);
                spot.measure(net, net.places, cover.lies[dot], x, y);
                spot.mix(net, net.homes);
                near[dot] = dotNearSpot();
            }
        }
        charted = true;
    }

    private void measureByPlaces(int x, int y) {
        chart();
        spot.measure(net, net.places, cover.lies[net.dotNumber(x, y)], x, y);
    }

    private int dotNearSpot() {
        int x = rounded(spot.x, spot.below);
        int y = rounded(spot.y, spot.below);
        // All homes are dots, so their mix never leaves the picture.
        return net.isDot(x, y) ? net.dotNumber(x, y) : 0;
    }

    private int sumOfValues() {
        int sum = 0;
        for (int d = 0; d < net.dots(); d++) {
            sum += values[d];
        }
        return sum;
    }

    private int sumOfTakenValues() {
        chart();
        int sum = 0;
        for (int d = 0; d < net.dots(); d++) {
            sum += values[near[d]];
        }
        return sum;
    }

    private void countUses() {
        Arrays.fill(useCounts, 0);
        for (int d = 0; d < net.dots(); d++) {
            useCounts[near[d]]++;
        }
    }

    /** The blended value at the spot, times the square of what is below the spot's numbers. */
    private int blendAbove() {
        int below = spot.below;
        if (below <= 0) {
            return 0;
        }
        int x = spot.x / below;
        int y = spot.y / below;
        int right = spot.x % below;
        int down = spot.y % below;
        int upper = (below - right) * valueOrZero(x, y) + right * valueOrZero(x + 1, y);
        int lower = (below - right) * valueOrZero(x, y + 1) + right * valueOrZero(x + 1, y + 1);
        return (below - down) * upper + down * lower;
    }

    /** Beyond the rim a blend weighs nothing, so any number will do there. */
    private int valueOrZero(int x, int y) {
        return net.isDot(x, y) ? values[net.dotNumber(x, y)] : 0;
    }

    /** The whole number nearest to a fraction, the lesser one of two. */
    private static int rounded(int above, int below) {
        if (below <= 0) {
            return 0;
        }
        int whole = above / below;
        int rest = above % below;
        return 2 * rest > below ? whole + 1 : whole;
    }

    /** The greatest number that divides both. */
    private static int divisorOf(int one, int other) {
        int a = one;
        int b = other;
        // Numbers below 2 to the 31 need at most 46 steps.
        for (int i = 0; i < 64 && b != 0; i++) {
            int rest = a % b;
            a = b;
            b = rest;
        }
        return a;
    }

    private static int shortened(int number, int divisor) {
        return divisor > 1 ? number / divisor : number;
    }

    /** A point for each knot: the homes, the places, or those on the way. */
    private static final class Points {
        final int[] xs = new int[KNOT_ROW];
        final int[] ys = new int[KNOT_ROW];

        void put(int k, int x, int y) {
            if (k >= 0 && k < KNOT_ROW) {
                xs[k] = x;
                ys[k] = y;
            }
        }

        boolean isAt(int k, int x, int y) {
            return xs[k] == x && ys[k] == y;
        }

        int area(int a, int b, int c) {
            return areaWith(xs[a], ys[a], b, c);
        }

        int areaWith(int x, int y, int b, int c) {
            return (xs[b] - x) * (ys[c] - y) - (xs[c] - x) * (ys[b] - y);
        }

        int squareOfLength(int a, int b) {
            int dx = xs[b] - xs[a];
            int dy = ys[b] - ys[a];
            return dx * dx + dy * dy;
        }

        /** The points behind come up by one. */
        void close(int k) {
            for (int i = Math.max(k, 0); i < KNOT_ROW - 1; i++) {
                xs[i] = xs[i + 1];
                ys[i] = ys[i + 1];
            }
        }
    }

    /** The triangles in their order: each is packed into one number, and the numbers rise as the triangles do. */
    private static final class Triangles {
        final int[] packed = new int[TRIANGLE_ROW];
        int held = 0;

        static int pack(int a, int b, int c) {
            return (a << 2 * KNOT_BITS) | (b << KNOT_BITS) | c;
        }

        boolean isOne(int t) {
            return t >= 0 && t < held;
        }

        int first(int t) {
            return packed[t] >> 2 * KNOT_BITS & KNOT_MASK;
        }

        int second(int t) {
            return packed[t] >> KNOT_BITS & KNOT_MASK;
        }

        int third(int t) {
            return packed[t] & KNOT_MASK;
        }

        boolean has(int t, int k) {
            return first(t) == k || second(t) == k || third(t) == k;
        }

        /** Adds a triangle, told in any of its three turns, where its order puts it. */
        void add(int a, int b, int c) {
            if (held >= TRIANGLE_ROW) {
                return;
            }
            int number = pack(a, b, c);
            if (b < a && b < c) {
                number = pack(b, c, a);
            } else if (c < a && c < b) {
                number = pack(c, a, b);
            }
            int t = held;
            for (; t > 0 && packed[t - 1] > number; t--) {
                packed[t] = packed[t - 1];
            }
            packed[t] = number;
            held++;
        }

        void remove(int t) {
            if (!isOne(t)) {
                return;
            }
            for (int i = t; i < held - 1; i++) {
                packed[i] = packed[i + 1];
            }
            held--;
        }

        /** The knot that makes a triangle with these two in this turn, or NONE. */
        int apex(int one, int other) {
            for (int t = 0; t < held; t++) {
                int a = first(t);
                int b = second(t);
                int c = third(t);
                if (a == one && b == other) {
                    return c;
                }
                if (b == one && c == other) {
                    return a;
                }
                if (c == one && a == other) {
                    return b;
                }
            }
            return NONE;
        }

        /** How many triangles have the edge of two knots. */
        int holdersOf(int one, int other) {
            return (apex(one, other) == NONE ? 0 : 1) + (apex(other, one) == NONE ? 0 : 1);
        }

        /** The knots behind come up by one; no triangle has this one any more, so the order stays. */
        void close(int k) {
            for (int t = 0; t < held; t++) {
                packed[t] = pack(closed(first(t), k), closed(second(t), k), closed(third(t), k));
            }
        }

        private static int closed(int number, int k) {
            return number > k ? number - 1 : number;
        }
    }

    /** The knots and triangles, and what is refused. */
    private static final class Net {
        final Points homes = new Points();
        final Points places = new Points();
        final Points way = new Points();
        final Triangles triangles = new Triangles();
        // The edges that a knot makes triangles with: from, to and the knot, in this turn.
        final int[] linkFrom = new int[TRIANGLE_ROW];
        final int[] linkTo = new int[TRIANGLE_ROW];
        int linked = 0;
        int knots = 0;
        int w = LEAST_SIDE;
        int h = LEAST_SIDE;

        void begin(int newW, int newH) {
            w = newW;
            h = newH;
            beginCorner(0, 0, 0);
            beginCorner(1, w - 1, 0);
            beginCorner(2, w - 1, h - 1);
            beginCorner(3, 0, h - 1);
            knots = CORNERS;
            triangles.held = 0;
            triangles.add(0, 1, 2);
            triangles.add(0, 2, 3);
        }

        private void beginCorner(int k, int x, int y) {
            homes.put(k, x, y);
            places.put(k, x, y);
        }

        boolean isDot(int x, int y) {
            return x >= 0 && x < w && y >= 0 && y < h;
        }

        int dotNumber(int x, int y) {
            return y * w + x;
        }

        int dots() {
            return w * h;
        }

        boolean isKnot(int k) {
            return k >= 0 && k < knots;
        }

        /** 0 a corner, 1 on a side, 2 within. */
        int kindOf(int k) {
            if (k < CORNERS) {
                return 0;
            }
            int x = homes.xs[k];
            int y = homes.ys[k];
            return x == 0 || x == w - 1 || y == 0 || y == h - 1 ? 1 : 2;
        }

        int trianglesOf(int k) {
            int found = 0;
            for (int t = 0; t < triangles.held; t++) {
                if (triangles.has(t, k)) {
                    found++;
                }
            }
            return found;
        }

        int areaOf(Points points, int t) {
            return points.area(triangles.first(t), triangles.second(t), triangles.third(t));
        }

        /** Whether a triangle has a dot: within, on an edge, at a knot. */
        boolean holds(Points points, int t, int x, int y) {
            int a = triangles.first(t);
            int b = triangles.second(t);
            int c = triangles.third(t);
            return points.areaWith(x, y, b, c) >= 0
                && points.areaWith(x, y, c, a) >= 0
                && points.areaWith(x, y, a, b) >= 0;
        }

        int leastHolder(Points points, int x, int y) {
            for (int t = 0; t < triangles.held; t++) {
                if (holds(points, t, x, y)) {
                    return t;
                }
            }
            return NONE;
        }

        /** The net has no hole, so Euler's rule tells its edges. */
        int edges() {
            return knots + triangles.held - 1;
        }

        int edgesToTurn() {
            int found = 0;
            for (int t = 0; t < triangles.held; t++) {
                int a = triangles.first(t);
                int b = triangles.second(t);
                int c = triangles.third(t);
                found += turnsRising(a, b) + turnsRising(b, c) + turnsRising(c, a);
            }
            return found;
        }

        /** An edge of two triangles stands in them once rising and once falling: so it is counted once. */
        private int turnsRising(int one, int other) {
            return one < other && reasonToTurn(one, other) == 0 ? 1 : 0;
        }

        int bentKnots() {
            int found = 0;
            for (int k = 0; k < knots; k++) {
                if (!places.isAt(k, homes.xs[k], homes.ys[k])) {
                    found++;
                }
            }
            return found;
        }

        int bentTriangles(int t) {
            for (int k = 0; k < knots; k++) {
                int x = (WAY - t) * homes.xs[k] + t * places.xs[k];
                int y = (WAY - t) * homes.ys[k] + t * places.ys[k];
                way.put(k, x, y);
            }
            int found = 0;
            for (int i = 0; i < triangles.held; i++) {
                if (areaOf(way, i) <= 0) {
                    found++;
                }
            }
            return found;
        }

        /** The first triangle of the least or of the greatest stretch. */
        int extremeTriangle(boolean least) {
            int best = 0;
            for (int t = 1; t < triangles.held; t++) {
                int more = areaOf(places, t) * areaOf(homes, best) - areaOf(places, best) * areaOf(homes, t);
                if (least ? more < 0 : more > 0) {
                    best = t;
                }
            }
            return best;
        }

        // ---- insert

        int reasonToInsert(int homeX, int homeY, int x, int y) {
            if (!isDot(homeX, homeY) || !isDot(x, y)) {
                return 1;
            }
            if (isHome(homeX, homeY)) {
                return 2;
            }
            if (!keepsSide(homeX, homeY, x, y)) {
                return 3;
            }
            linkOfHome(homeX, homeY);
            if (foldsAt(x, y)) {
                return 4;
            }
            return knots >= MOST_KNOTS ? 5 : 0;
        }

        private boolean isHome(int x, int y) {
            for (int k = 0; k < knots; k++) {
                if (homes.isAt(k, x, y)) {
                    return true;
                }
            }
            return false;
        }

        private boolean keepsSide(int homeX, int homeY, int x, int y) {
            return (homeX != 0 || x == 0)
                && (homeX != w - 1 || x == w - 1)
                && (homeY != 0 || y == 0)
                && (homeY != h - 1 || y == h - 1);
        }

        int putKnot(int homeX, int homeY, int x, int y) {
            linkOfHome(homeX, homeY);
            for (int t = triangles.held - 1; t >= 0; t--) {
                if (holds(homes, t, homeX, homeY)) {
                    triangles.remove(t);
                }
            }
            int k = knots;
            homes.put(k, homeX, homeY);
            places.put(k, x, y);
            knots++;
            for (int i = 0; i < linked; i++) {
                triangles.add(linkFrom[i], linkTo[i], k);
            }
            return k;
        }

        /** Links a knot to be: an edge within which it lies makes no triangle with it. */
        private void linkOfHome(int x, int y) {
            linked = 0;
            for (int t = 0; t < triangles.held; t++) {
                if (holds(homes, t, x, y)) {
                    int a = triangles.first(t);
                    int b = triangles.second(t);
                    int c = triangles.third(t);
                    linkIfApart(x, y, a, b);
                    linkIfApart(x, y, b, c);
                    linkIfApart(x, y, c, a);
                }
            }
        }

        private void linkIfApart(int x, int y, int one, int other) {
            if (homes.areaWith(x, y, one, other) > 0) {
                link(one, other);
            }
        }

        private void link(int one, int other) {
            if (linked < TRIANGLE_ROW) {
                linkFrom[linked] = one;
                linkTo[linked] = other;
                linked++;
            }
        }

        private boolean foldsAt(int x, int y) {
            for (int i = 0; i < linked; i++) {
                if (places.areaWith(x, y, linkFrom[i], linkTo[i]) <= 0) {
                    return true;
                }
            }
            return false;
        }

        // ---- move

        int reasonToMove(int k, int x, int y) {
            if (!isKnot(k)) {
                return 1;
            }
            linkOf(k);
            return reasonByLink(k, x, y);
        }

        void linkOf(int k) {
            linked = 0;
            for (int t = 0; t < triangles.held; t++) {
                int a = triangles.first(t);
                int b = triangles.second(t);
                int c = triangles.third(t);
                if (a == k) {
                    link(b, c);
                } else if (b == k) {
                    link(c, a);
                } else if (c == k) {
                    link(a, b);
                }
            }
        }

        /** Why a knot, whose link has been made, can't be moved. */
        int reasonByLink(int k, int x, int y) {
            if (!isDot(x, y)) {
                return 1;
            }
            if (places.isAt(k, x, y)) {
                return 2;
            }
            if (k < CORNERS || !keepsSide(homes.xs[k], homes.ys[k], x, y)) {
                return 3;
            }
            return foldsAt(x, y) ? 4 : 0;
        }

        boolean isRoom(int k, int x, int y) {
            int reason = reasonByLink(k, x, y);
            return reason == 0 || reason == 2;
        }

        // ---- turn

        int reasonToTurn(int one, int other) {
            if (!isKnot(one) || !isKnot(other)) {
                return 1;
            }
            int left = triangles.apex(one, other);
            int right = triangles.apex(other, one);
            if (left == NONE || right == NONE) {
                return 2;
            }
            return isFlat(one, right, left) || isFlat(right, other, left) ? 4 : 0;
        }

        private boolean isFlat(int a, int b, int c) {
            return homes.area(a, b, c) <= 0 || places.area(a, b, c) <= 0;
        }

        void turnEdge(int one, int other) {
            int left = triangles.apex(one, other);
            int right = triangles.apex(other, one);
            for (int t = triangles.held - 1; t >= 0; t--) {
                if (triangles.has(t, one) && triangles.has(t, other)) {
                    triangles.remove(t);
                }
            }
            triangles.add(one, right, left);
            triangles.add(right, other, left);
        }

        // ---- out

        int reasonToTakeOut(int k) {
            if (!isKnot(k)) {
                return 1;
            }
            int kind = kindOf(k);
            int most = kind == 1 ? 2 : 3;
            return kind == 0 || trianglesOf(k) > most ? 2 : 0;
        }

        void takeOut(int k) {
            linkOf(k);
            for (int t = triangles.held - 1; t >= 0; t--) {
                if (triangles.has(t, k)) {
                    triangles.remove(t);
                }
            }
            coverLink();
            triangles.close(k);
            homes.close(k);
            places.close(k);
            knots--;
        }

        /** Two edges of the link, one behind the other, have all knots of the triangle that is left. */
        private void coverLink() {
            for (int i = 0; i < linked; i++) {
                for (int j = 0; j < linked; j++) {
                    if (linkTo[i] == linkFrom[j]) {
                        triangles.add(linkFrom[i], linkTo[i], linkTo[j]);
                        return;
                    }
                }
            }
        }
    }

    /** In which triangle each dot of the bent picture lies. */
    private static final class Cover {
        final int[] lies = new int[MOST_DOTS];
        final int[] holders = new int[MOST_DOTS];

        void fill(Net net) {
            Arrays.fill(lies, NONE);
            Arrays.fill(holders, 0);
            for (int t = 0; t < net.triangles.held; t++) {
                lay(net, net.places, t);
            }
        }

        /** Only the dots of the upright box around the triangle are looked at. */
        private void lay(Net net, Points points, int t) {
            int a = net.triangles.first(t);
            int b = net.triangles.second(t);
            int c = net.triangles.third(t);
            int left = least(points.xs[a], points.xs[b], points.xs[c]);
            int right = greatest(points.xs[a], points.xs[b], points.xs[c]);
            int top = least(points.ys[a], points.ys[b], points.ys[c]);
            int bottom = greatest(points.ys[a], points.ys[b], points.ys[c]);
            for (int y = top; y <= bottom; y++) {
                for (int x = left; x <= right; x++) {
                    if (net.isDot(x, y) && net.holds(points, t, x, y)) {
                        take(net.dotNumber(x, y), t);
                    }
                }
            }
        }

        private static int least(int a, int b, int c) {
            return Math.min(a, Math.min(b, c));
        }

        private static int greatest(int a, int b, int c) {
            return Math.max(a, Math.max(b, c));
        }

        private void take(int dot, int t) {
            if (lies[dot] == NONE) {
                lies[dot] = t;
            }
            holders[dot]++;
        }

        int dotsIn(int t, int dots) {
            int found = 0;
            for (int d = 0; d < dots && d < MOST_DOTS; d++) {
                if (lies[d] == t) {
                    found++;
                }
            }
            return found;
        }

        int dotsOfMany(int dots) {
            int found = 0;
            for (int d = 0; d < dots && d < MOST_DOTS; d++) {
                if (holders[d] > 1) {
                    found++;
                }
            }
            return found;
        }
    }

    /** A dot's shares in its triangle, and the fractions that they make of other points. */
    private static final class Spot {
        int lying = NONE;
        int first = 0;
        int second = 0;
        int third = 0;
        int whole = 1;
        int x = 0;
        int y = 0;
        int below = 1;

        void measure(Net net, Points points, int t, int dotX, int dotY) {
            if (!net.triangles.isOne(t)) {
                return;
            }
            lying = t;
            int a = net.triangles.first(t);
            int b = net.triangles.second(t);
            int c = net.triangles.third(t);
            first = points.areaWith(dotX, dotY, b, c);
            second = points.areaWith(dotX, dotY, c, a);
            third = points.areaWith(dotX, dotY, a, b);
            whole = first + second + third;
        }

        void shortenShares() {
            int divisor = divisorOf(divisorOf(first, second), third);
            first = shortened(first, divisor);
            second = shortened(second, divisor);
            third = shortened(third, divisor);
            whole = shortened(whole, divisor);
        }

        void mix(Net net, Points points) {
            if (!net.triangles.isOne(lying)) {
                return;
            }
            int a = net.triangles.first(lying);
            int b = net.triangles.second(lying);
            int c = net.triangles.third(lying);
            x = first * points.xs[a] + second * points.xs[b] + third * points.xs[c];
            y = first * points.ys[a] + second * points.ys[b] + third * points.ys[c];
            int divisor = divisorOf(divisorOf(x, y), whole);
            x = shortened(x, divisor);
            y = shortened(y, divisor);
            below = shortened(whole, divisor);
        }

        /** What 0: x, 1: y, 2: below. */
        int told(int what) {
            switch (what) {
                case 0:
                    return x;
                case 1:
                    return y;
                case 2:
                    return below;
                default:
                    return NONE;
            }
        }
    }
}
