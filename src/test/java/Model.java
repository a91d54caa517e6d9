import java.math.BigInteger;
import java.util.ArrayList;
import java.util.Comparator;
import java.util.HashSet;
import java.util.List;
import java.util.Set;

/**
 * The document once more, written another way: nothing is kept but the knots, the triangles and the values, every
 * answer is made anew by looking at all there is, and an act is tried on a copy whose triangles are all looked at.
 */
final class Model {
    int w = 5;
    int h = 4;
    int[] values = new int[20];
    List<int[]> knots = new ArrayList<>();
    List<int[]> triangles = new ArrayList<>();

    Model() {
        size(5, 4);
    }

    private Model copy() {
        Model other = new Model();
        other.w = w;
        other.h = h;
        other.values = values.clone();
        other.knots = new ArrayList<>();
        for (int[] k : knots) {
            other.knots.add(k.clone());
        }
        other.triangles = new ArrayList<>();
        for (int[] t : triangles) {
            other.triangles.add(t.clone());
        }
        return other;
    }

    private void become(Model other) {
        knots = other.knots;
        triangles = other.triangles;
        rank();
    }

    private void rank() {
        for (int i = 0; i < triangles.size(); i++) {
            int[] t = triangles.get(i);
            while (t[0] > t[1] || t[0] > t[2]) {
                t = new int[] {t[1], t[2], t[0]};
            }
            triangles.set(i, t);
        }
        triangles.sort(Comparator.<int[]>comparingInt(t -> t[0]).thenComparingInt(t -> t[1]).thenComparingInt(t -> t[2]));
    }

    boolean size(int newW, int newH) {
        if (newW < 2 || newW > 20 || newH < 2 || newH > 20) {
            return false;
        }
        w = newW;
        h = newH;
        values = new int[w * h];
        knots = new ArrayList<>(List.of(new int[] {0, 0, 0, 0}, new int[] {w - 1, 0, w - 1, 0},
            new int[] {w - 1, h - 1, w - 1, h - 1}, new int[] {0, h - 1, 0, h - 1}));
        triangles = new ArrayList<>(List.of(new int[] {0, 1, 2}, new int[] {0, 2, 3}));
        return true;
    }

    boolean holdsDot(int x, int y) {
        return 0 <= x && x < w && 0 <= y && y < h;
    }

    int paint(int x, int y, int value) {
        if (!holdsDot(x, y) || value < 0 || value > 15) {
            return -1;
        }
        int was = values[y * w + x];
        values[y * w + x] = value;
        return was;
    }

    int weave(int seed) {
        for (int d = 0; d < w * h; d++) {
            BigInteger sum = BigInteger.valueOf(7L * (d % w) + 13L * (d / w) + (long) (d % w) * (d / w) + seed);
            values[d] = sum.mod(BigInteger.valueOf(16)).intValue();
        }
        return count(7);
    }

    int value(int x, int y, boolean bent) {
        return !holdsDot(x, y) ? -1 : values[bent ? nearest(x, y) : y * w + x];
    }

    private static long area(long[] a, long[] b, long[] c) {
        return (b[0] - a[0]) * (c[1] - a[1]) - (c[0] - a[0]) * (b[1] - a[1]);
    }

    private long[] home(int k) {
        return new long[] {knots.get(k)[0], knots.get(k)[1]};
    }

    private long[] place(int k) {
        return new long[] {knots.get(k)[2], knots.get(k)[3]};
    }

    private long[] point(int k, boolean home) {
        return home ? home(k) : place(k);
    }

    private long area(int[] t, boolean home) {
        return area(point(t[0], home), point(t[1], home), point(t[2], home));
    }

    private boolean folds() {
        return triangles.stream().anyMatch(t -> area(t, false) <= 0 || area(t, true) <= 0);
    }

    private boolean offSide(int hx, int hy, int x, int y) {
        return hx == 0 && x != 0 || hy == 0 && y != 0 || hx == w - 1 && x != w - 1 || hy == h - 1 && y != h - 1;
    }

    private boolean hasKnot(int k) {
        return k >= 0 && k < knots.size();
    }

    int insert(int hx, int hy, int x, int y) {
        if (!holdsDot(hx, hy) || !holdsDot(x, y)) {
            return -1;
        }
        if (knots.stream().anyMatch(k -> k[0] == hx && k[1] == hy)) {
            return -2;
        }
        if (offSide(hx, hy, x, y)) {
            return -3;
        }
        Model then = copy();
        then.knots.add(new int[] {hx, hy, x, y});
        int n = knots.size();
        then.triangles.clear();
        long[] at = {hx, hy};
        for (int[] t : triangles) {
            List<int[]> parts = new ArrayList<>();
            boolean onEdge = false;
            for (int i = 0; i < 3; i++) {
                int p = t[i];
                int q = t[(i + 1) % 3];
                int r = t[(i + 2) % 3];
                if (between(home(p), at, home(q))) {
                    onEdge = true;
                    then.triangles.add(new int[] {p, n, r});
                    then.triangles.add(new int[] {n, q, r});
                }
                parts.add(new int[] {p, q, n});
            }
            if (!onEdge) {
                boolean within = parts.stream().allMatch(part -> then.area(part, true) > 0);
                then.triangles.addAll(within ? parts : List.<int[]>of(t));
            }
        }
        if (then.folds()) {
            return -4;
        }
        if (n == 30) {
            return -5;
        }
        become(then);
        return n;
    }

    private static boolean between(long[] p, long[] at, long[] q) {
        long dot = (p[0] - at[0]) * (q[0] - at[0]) + (p[1] - at[1]) * (q[1] - at[1]);
        return area(p, at, q) == 0 && dot < 0;
    }

    int move(int k, int x, int y) {
        if (!hasKnot(k) || !holdsDot(x, y)) {
            return 1;
        }
        int[] it = knots.get(k);
        if (it[2] == x && it[3] == y) {
            return 2;
        }
        if (k < 4 || offSide(it[0], it[1], x, y)) {
            return 3;
        }
        Model then = copy();
        then.knots.get(k)[2] = x;
        then.knots.get(k)[3] = y;
        if (then.folds()) {
            return 4;
        }
        become(then);
        return 0;
    }

    private static boolean has(int[] t, int k) {
        return t[0] == k || t[1] == k || t[2] == k;
    }

    private List<int[]> having(int one, int other) {
        List<int[]> found = new ArrayList<>();
        for (int[] t : triangles) {
            if (has(t, one) && has(t, other)) {
                found.add(t);
            }
        }
        return found;
    }

    private static boolean cross(long[] p, long[] q, long[] r, long[] s) {
        return Long.signum(area(p, q, r)) * Long.signum(area(p, q, s)) == -1
            && Long.signum(area(r, s, p)) * Long.signum(area(r, s, q)) == -1;
    }

    int turn(int one, int other) {
        if (!hasKnot(one) || !hasKnot(other)) {
            return 1;
        }
        List<int[]> both = having(one, other);
        if (one == other || both.size() < 2) {
            return 2;
        }
        int r = third(both.get(0), one, other);
        int s = third(both.get(1), one, other);
        if (!cross(home(one), home(other), home(r), home(s)) || !cross(place(one), place(other), place(r), place(s))) {
            return 4;
        }
        Model then = copy();
        then.triangles.removeIf(t -> has(t, one) && has(t, other));
        for (int k : new int[] {one, other}) {
            int[] t = {k, r, s};
            then.triangles.add(area(t, true) > 0 ? t : new int[] {k, s, r});
        }
        if (then.folds()) {
            throw new IllegalStateException("a turn that crosses folds");
        }
        become(then);
        return 0;
    }

    private static int third(int[] t, int one, int other) {
        return t[0] + t[1] + t[2] - one - other;
    }

    private boolean onSide(int k) {
        int[] it = knots.get(k);
        return it[0] == 0 || it[1] == 0 || it[0] == w - 1 || it[1] == h - 1;
    }

    int out(int k) {
        if (!hasKnot(k)) {
            return 1;
        }
        List<int[]> its = having(k, k);
        if (k < 4 || its.size() > (onSide(k) ? 2 : 3)) {
            return 2;
        }
        Set<Integer> around = new HashSet<>();
        its.forEach(t -> {
            around.add(t[0]);
            around.add(t[1]);
            around.add(t[2]);
        });
        around.remove(k);
        int[] left = around.stream().mapToInt(i -> i).toArray();
        if (left.length != 3) {
            throw new IllegalStateException("not three knots around");
        }
        Model then = copy();
        then.triangles.removeIf(t -> has(t, k));
        then.triangles.add(area(left, true) > 0 ? left : new int[] {left[0], left[2], left[1]});
        then.knots.remove(k);
        for (int[] t : then.triangles) {
            for (int i = 0; i < 3; i++) {
                t[i] -= t[i] > k ? 1 : 0;
            }
        }
        if (then.folds()) {
            throw new IllegalStateException("a knot taken out folds");
        }
        become(then);
        return 0;
    }

    int straight() {
        int moved = count(6);
        for (int[] k : knots) {
            k[2] = k[0];
            k[3] = k[1];
        }
        return moved;
    }

    int carry() {
        int[] then = values.clone();
        int other = 0;
        for (int d = 0; d < w * h; d++) {
            then[d] = value(d % w, d / w, true);
            other += then[d] != values[d] ? 1 : 0;
        }
        values = then;
        return other;
    }

    int knot(int k, int what) {
        if (!hasKnot(k) || what < 0 || what > 5) {
            return -1;
        }
        if (what < 4) {
            return knots.get(k)[what];
        }
        return what == 4 ? having(k, k).size() : k < 4 ? 0 : onSide(k) ? 1 : 2;
    }

    int triangle(int t, int what) {
        if (t < 0 || t >= triangles.size() || what < 0 || what > 5) {
            return -1;
        }
        if (what < 3) {
            return triangles.get(t)[what];
        }
        if (what < 5) {
            return (int) area(triangles.get(t), what == 3);
        }
        int in = 0;
        for (int d = 0; d < w * h; d++) {
            in += find(d % w, d / w, false) == t ? 1 : 0;
        }
        return in;
    }

    int edge(int one, int other, int what) {
        if (one == other || what < 0 || what > 3 || having(one, other).isEmpty()) {
            return -1;
        }
        if (what == 0) {
            return having(one, other).size();
        }
        if (what == 3) {
            return copy().turn(one, other) == 0 ? 1 : 0;
        }
        long[] p = point(one, what == 1);
        long[] q = point(other, what == 1);
        return (int) ((p[0] - q[0]) * (p[0] - q[0]) + (p[1] - q[1]) * (p[1] - q[1]));
    }

    int count(int what) {
        int n = knots.size();
        int found = 0;
        switch (what) {
            case 0:
                return w;
            case 1:
                return h;
            case 2:
                return n;
            case 3:
                return triangles.size();
            case 4:
            case 5:
                for (int p = 0; p < n; p++) {
                    for (int q = p + 1; q < n; q++) {
                        found += edge(p, q, what == 4 ? 0 : 3) > 0 ? 1 : 0;
                    }
                }
                return found;
            case 6:
                return (int) knots.stream().filter(k -> k[0] != k[2] || k[1] != k[3]).count();
            case 7:
            case 8:
                for (int d = 0; d < w * h; d++) {
                    found += value(d % w, d / w, what == 8);
                }
                return found;
            case 9:
                for (int d = 0; d < w * h; d++) {
                    found += holders(d % w, d / w, false).size() > 1 ? 1 : 0;
                }
                return found;
            default:
                return -1;
        }
    }

    private List<Integer> holders(int x, int y, boolean home) {
        List<Integer> found = new ArrayList<>();
        long[] at = {x, y};
        for (int i = 0; i < triangles.size(); i++) {
            int[] t = triangles.get(i);
            long[] a = point(t[0], home);
            long[] b = point(t[1], home);
            long[] c = point(t[2], home);
            long parts = Math.abs(area(at, b, c)) + Math.abs(area(a, at, c)) + Math.abs(area(a, b, at));
            if (parts == area(a, b, c)) {
                found.add(i);
            }
        }
        return found;
    }

    int find(int x, int y, boolean home) {
        return !holdsDot(x, y) ? -1 : holders(x, y, home).get(0);
    }

    /** Two of the shares by Cramer's rule, the first one what is left; then what is below. */
    private long[] shares(int x, int y, boolean home) {
        int[] t = triangles.get(find(x, y, home));
        long[] a = point(t[0], home);
        long[] b = point(t[1], home);
        long[] c = point(t[2], home);
        long whole = (b[0] - a[0]) * (c[1] - a[1]) - (b[1] - a[1]) * (c[0] - a[0]);
        long ofB = (x - a[0]) * (c[1] - a[1]) - (y - a[1]) * (c[0] - a[0]);
        long ofC = (b[0] - a[0]) * (y - a[1]) - (b[1] - a[1]) * (x - a[0]);
        return new long[] {whole - ofB - ofC, ofB, ofC, whole};
    }

    private static long[] least(long... numbers) {
        BigInteger divisor = BigInteger.ZERO;
        for (long number : numbers) {
            divisor = divisor.gcd(BigInteger.valueOf(number));
        }
        long[] less = numbers.clone();
        for (int i = 0; i < less.length; i++) {
            less[i] /= divisor.longValueExact();
        }
        return less;
    }

    int share(int x, int y, int what) {
        return !holdsDot(x, y) || what < 0 || what > 3 ? -1 : (int) least(shares(x, y, false))[what];
    }

    private long[] goes(int x, int y, boolean home) {
        long[] s = shares(x, y, home);
        int[] t = triangles.get(find(x, y, home));
        long[] a = point(t[0], !home);
        long[] b = point(t[1], !home);
        long[] c = point(t[2], !home);
        long[] at = new long[2];
        for (int i = 0; i < 2; i++) {
            at[i] = a[i] * s[3] + (b[i] - a[i]) * s[1] + (c[i] - a[i]) * s[2];
        }
        return least(at[0], at[1], s[3]);
    }

    int from(int x, int y, int what) {
        return !holdsDot(x, y) || what < 0 || what > 2 ? -1 : (int) goes(x, y, false)[what];
    }

    int to(int x, int y, int what) {
        return !holdsDot(x, y) || what < 0 || what > 2 ? -1 : (int) goes(x, y, true)[what];
    }

    private static int closest(long above, long below, int many) {
        int best = 0;
        for (int i = 1; i < many; i++) {
            if (Math.abs(i * below - above) < Math.abs(best * below - above)) {
                best = i;
            }
        }
        return best;
    }

    int nearest(int x, int y) {
        if (!holdsDot(x, y)) {
            return -1;
        }
        long[] from = goes(x, y, false);
        return closest(from[1], from[2], h) * w + closest(from[0], from[2], w);
    }

    int blend(int x, int y, int what) {
        if (!holdsDot(x, y) || what < 0 || what > 1) {
            return -1;
        }
        long[] from = goes(x, y, false);
        long above = 0;
        for (int d = 0; d < w * h; d++) {
            long byX = Math.max(0, from[2] - Math.abs(d % w * from[2] - from[0]));
            long byY = Math.max(0, from[2] - Math.abs(d / w * from[2] - from[1]));
            above += byX * byY * values[d];
        }
        return (int) least(above, from[2] * from[2])[what];
    }

    int uses(int x, int y) {
        if (!holdsDot(x, y)) {
            return -1;
        }
        int found = 0;
        for (int d = 0; d < w * h; d++) {
            found += nearest(d % w, d / w) == y * w + x ? 1 : 0;
        }
        return found;
    }

    private int[] nearests() {
        int[] all = new int[w * h];
        for (int d = 0; d < w * h; d++) {
            all[d] = nearest(d % w, d / w);
        }
        return all;
    }

    int lost() {
        Set<Integer> used = new HashSet<>();
        for (int d : nearests()) {
            used.add(d);
        }
        return w * h - used.size();
    }

    int trace(int x, int y, int n) {
        if (!holdsDot(x, y) || n < 0 || n > 100) {
            return -1;
        }
        int d = y * w + x;
        for (int i = 0; i < n; i++) {
            d = nearest(d % w, d / w);
        }
        return d;
    }

    int loops() {
        int[] all = nearests();
        int found = 0;
        for (int d = 0; d < w * h; d++) {
            int at = d;
            for (int i = 0; i < w * h; i++) {
                at = all[at];
                if (at == d) {
                    found++;
                    break;
                }
            }
        }
        return found;
    }

    int room(int k, int i) {
        if (!hasKnot(k)) {
            return -1;
        }
        List<Integer> all = new ArrayList<>();
        for (int d = 0; d < w * h; d++) {
            int reason = copy().move(k, d % w, d / w);
            if (reason == 0 || reason == 2) {
                all.add(d);
            }
        }
        return i == -1 ? all.size() : i < 0 || i >= all.size() ? -1 : all.get(i);
    }

    int reach(int k, int dx, int dy) {
        if (!hasKnot(k) || Math.abs((long) dx) > 3 || Math.abs((long) dy) > 3 || dx == 0 && dy == 0) {
            return -1;
        }
        Model then = copy();
        int moves = 0;
        while (then.move(k, then.knots.get(k)[2] + dx, then.knots.get(k)[3] + dy) == 0) {
            moves++;
        }
        return moves;
    }

    int bent(int t) {
        if (t < 0 || t > 8) {
            return -1;
        }
        int found = 0;
        for (int[] it : triangles) {
            long[][] at = new long[3][2];
            for (int i = 0; i < 3; i++) {
                for (int j = 0; j < 2; j++) {
                    at[i][j] = (8 - t) * home(it[i])[j] + t * place(it[i])[j];
                }
            }
            found += area(at[0], at[1], at[2]) <= 0 ? 1 : 0;
        }
        return found;
    }

    int stretch(int what) {
        if (what < 0 || what > 5) {
            return -1;
        }
        boolean least = what == 1 || what == 4 || what == 5;
        int best = 0;
        for (int t = 1; t < triangles.size(); t++) {
            long[] mine = least(area(triangles.get(t), false), area(triangles.get(t), true));
            long[] its = least(area(triangles.get(best), false), area(triangles.get(best), true));
            int order = Long.compare(mine[0] * its[1], its[0] * mine[1]);
            best = order == (least ? -1 : 1) ? t : best;
        }
        if (what < 2) {
            return best;
        }
        return (int) least(area(triangles.get(best), false), area(triangles.get(best), true))[what % 2];
    }
}
