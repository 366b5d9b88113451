import java.math.BigInteger;
import java.util.ArrayDeque;
import java.util.ArrayList;
import java.util.Arrays;
import java.util.Comparator;
import java.util.List;
import java.util.TreeMap;

/** Long runs of calls, each answer beside that of a slow model made in other ways than the class. */
public final class OracleTests {
    static int wrong = 0;
    static long calls = 0;

    public static void main(String[] args) {
        int runs = args.length > 0 ? Integer.parseInt(args[0]) : 600;
        for (int run = 0; run < runs; run++) new Run(run).go();
        System.out.println(calls + " calls, " + wrong + " not as due");
        if (wrong != 0) System.exit(1);
    }

    /** Exact fractions. */
    static final class Q implements Comparable<Q> {
        static final Q ZERO = new Q(0, 1);
        final BigInteger n, d;

        Q(BigInteger n, BigInteger d) {
            if (d.signum() < 0) { n = n.negate(); d = d.negate(); }
            BigInteger g = n.gcd(d);
            this.n = n.divide(g);
            this.d = d.divide(g);
        }
        Q(long n, long d) { this(BigInteger.valueOf(n), BigInteger.valueOf(d)); }
        Q plus(Q o) { return new Q(n.multiply(o.d).add(o.n.multiply(d)), d.multiply(o.d)); }
        Q minus(Q o) { return new Q(n.multiply(o.d).subtract(o.n.multiply(d)), d.multiply(o.d)); }
        Q times(Q o) { return new Q(n.multiply(o.n), d.multiply(o.d)); }
        Q over(Q o) { return new Q(n.multiply(o.d), d.multiply(o.n)); }
        public int compareTo(Q o) { return n.multiply(o.d).compareTo(o.n.multiply(d)); }
        long part(int what) { return (what == 0 ? n : d).longValueExact(); }
    }

    static Q q(long n) { return new Q(n, 1); }

    static final class Spot {
        final int x, y, number;
        Spot(int x, int y, int number) { this.x = x; this.y = y; this.number = number; }
    }

    static long cross(Spot a, Spot b, Spot c) {
        return (long) (b.x - a.x) * (c.y - a.y) - (long) (b.y - a.y) * (c.x - a.x);
    }

    static long dist(Spot a, Spot b) {
        return (long) (a.x - b.x) * (a.x - b.x) + (long) (a.y - b.y) * (a.y - b.y);
    }

    /** Centre x, y and size of the circle through some, null if there is none. */
    static Q[] through(Spot... s) {
        if (s.length == 1) return new Q[] {q(s[0].x), q(s[0].y), Q.ZERO};
        if (s.length == 2) return new Q[] {new Q(s[0].x + s[1].x, 2), new Q(s[0].y + s[1].y, 2), new Q(dist(s[0], s[1]), 4)};
        if (cross(s[0], s[1], s[2]) == 0) return null;
        // Cramer's rule over the two middle lines
        long a1 = 2L * (s[1].x - s[0].x), b1 = 2L * (s[1].y - s[0].y), c1 = sq(s[1]) - sq(s[0]);
        long a2 = 2L * (s[2].x - s[0].x), b2 = 2L * (s[2].y - s[0].y), c2 = sq(s[2]) - sq(s[0]);
        long det = a1 * b2 - a2 * b1;
        Q x = new Q(c1 * b2 - c2 * b1, det), y = new Q(a1 * c2 - a2 * c1, det);
        return new Q[] {x, y, distTo(x, y, s[0])};
    }

    static long sq(Spot s) { return (long) s.x * s.x + (long) s.y * s.y; }

    static Q distTo(Q x, Q y, Spot s) {
        Q dx = x.minus(q(s.x)), dy = y.minus(q(s.y));
        return dx.times(dx).plus(dy.times(dy));
    }

    /** SIZE of three at most, by their sides alone. */
    static Q sizeOf(Spot a, Spot b, Spot c) {
        long[] d = {dist(a, b), dist(b, c), dist(c, a)};
        Arrays.sort(d);
        if (d[0] + d[1] <= d[2]) return new Q(d[2], 4);
        long k = cross(a, b, c);
        return new Q(BigInteger.valueOf(d[0]).multiply(BigInteger.valueOf(d[1])).multiply(BigInteger.valueOf(d[2])), BigInteger.valueOf(4 * k * k));
    }

    static double roughSize(Spot a, Spot b, Spot c) {
        long x = dist(a, b), y = dist(b, c), z = dist(c, a), top = Math.max(x, Math.max(y, z));
        if (x + y + z - top <= top) return top / 4.0;
        double k = cross(a, b, c);
        return (double) x * y * z / (4 * k * k);
    }

    /** The SIZE of many is the greatest one of three of them; the circle is theirs. */
    static Spot[] forcing(List<Spot> s) {
        Spot[] best = {s.get(0), s.get(0), s.get(0)};
        double rough = 0;
        Q size = Q.ZERO;
        for (int i = 0; i < s.size(); i++) for (int j = i; j < s.size(); j++) for (int k = j; k < s.size(); k++) {
            double r = roughSize(s.get(i), s.get(j), s.get(k));
            if (r < rough - 1e-6 * rough) continue;
            Q t = sizeOf(s.get(i), s.get(j), s.get(k));
            if (t.compareTo(size) > 0) { size = t; rough = r; best = new Spot[] {s.get(i), s.get(j), s.get(k)}; }
        }
        return best;
    }

    static Q size(List<Spot> s) {
        Spot[] f = forcing(s);
        return sizeOf(f[0], f[1], f[2]);
    }

    static Q[] circleOf(List<Spot> s) {
        Spot[] f = forcing(s);
        Q size = sizeOf(f[0], f[1], f[2]);
        if (size.compareTo(Q.ZERO) == 0) return through(f[0]);
        for (int i = 0; i < 3; i++) for (int j = 0; j < i; j++) {
            if (new Q(dist(f[i], f[j]), 4).compareTo(size) == 0) return through(f[i], f[j]);
        }
        return through(f);
    }

    static List<Integer> tightOf(List<Spot> spots) {
        List<Spot> s = new ArrayList<>(spots);
        s.sort(Comparator.comparingInt(a -> a.number));
        Q size = size(s);
        int n = s.size();
        for (int i = 0; i < n; i++) if (size.compareTo(Q.ZERO) == 0) return List.of(s.get(i).number);
        for (int i = 0; i < n; i++) for (int j = i + 1; j < n; j++) {
            if (new Q(dist(s.get(i), s.get(j)), 4).compareTo(size) == 0) return List.of(s.get(i).number, s.get(j).number);
        }
        double rough = size.n.doubleValue() / size.d.doubleValue();
        for (int i = 0; i < n; i++) for (int j = i + 1; j < n; j++) for (int k = j + 1; k < n; k++) {
            if (Math.abs(roughSize(s.get(i), s.get(j), s.get(k)) - rough) > 1e-6 * rough) continue;
            if (sizeOf(s.get(i), s.get(j), s.get(k)).compareTo(size) == 0) return List.of(s.get(i).number, s.get(j).number, s.get(k).number);
        }
        throw new IllegalStateException("no tight ones");
    }

    static boolean onSegment(Spot a, Spot b, Spot p) {
        return cross(a, b, p) == 0 && Math.min(a.x, b.x) <= p.x && p.x <= Math.max(a.x, b.x) && Math.min(a.y, b.y) <= p.y && p.y <= Math.max(a.y, b.y);
    }

    static boolean inTriangle(Spot a, Spot b, Spot c, Spot p) {
        long k = cross(a, b, c), u = cross(a, b, p), v = cross(b, c, p), w = cross(c, a, p);
        if (k == 0) return false;
        return k > 0 ? u >= 0 && v >= 0 && w >= 0 : u <= 0 && v <= 0 && w <= 0;
    }

    /** A corner is one that is neither between two others nor in three others. */
    static boolean isCorner(List<Spot> s, Spot p) {
        for (Spot a : s) for (Spot b : s) {
            if (a == p || b == p || a == b) continue;
            if (onSegment(a, b, p)) return false;
        }
        for (int i = 0; i < s.size(); i++) for (int j = i + 1; j < s.size(); j++) for (int k = j + 1; k < s.size(); k++) {
            if (s.get(i) == p || s.get(j) == p || s.get(k) == p) continue;
            if (inTriangle(s.get(i), s.get(j), s.get(k), p)) return false;
        }
        return true;
    }

    static List<Spot> corners(List<Spot> s) {
        List<Spot> found = new ArrayList<>();
        for (Spot p : s) if (isCorner(s, p)) found.add(p);
        return found;
    }

    /** From the first corner on, each next one has all others to the left. */
    static List<Spot> hullOf(List<Spot> s) {
        List<Spot> c = corners(s), h = new ArrayList<>();
        if (c.size() <= 2) return c;
        Spot at = c.get(0);
        do {
            h.add(at);
            for (Spot b : c) {
                boolean all = b != at;
                for (Spot o : c) if (all && cross(at, b, o) < 0) all = false;
                if (all) { at = b; break; }
            }
        } while (at != c.get(0));
        return h;
    }

    static boolean inHull(List<Spot> h, Spot p) {
        if (h.size() == 1) return h.get(0).x == p.x && h.get(0).y == p.y;
        if (h.size() == 2) return onSegment(h.get(0), h.get(1), p);
        for (int i = 0; i < h.size(); i++) if (cross(h.get(i), h.get((i + 1) % h.size()), p) < 0) return false;
        return true;
    }

    static boolean onHullRim(List<Spot> h, Spot p) {
        if (h.size() == 1) return inHull(h, p);
        for (int i = 0; i < h.size(); i++) if (onSegment(h.get(i), h.get((i + 1) % h.size()), p)) return true;
        return false;
    }

    static boolean segmentsMeet(Spot a, Spot b, Spot c, Spot d) {
        if (onSegment(a, b, c) || onSegment(a, b, d) || onSegment(c, d, a) || onSegment(c, d, b)) return true;
        return Long.signum(cross(a, b, c)) * Long.signum(cross(a, b, d)) < 0 && Long.signum(cross(c, d, a)) * Long.signum(cross(c, d, b)) < 0;
    }

    static boolean hullsMeet(List<Spot> g, List<Spot> h) {
        for (Spot p : g) if (inHull(h, p)) return true;
        for (Spot p : h) if (inHull(g, p)) return true;
        for (int i = 0; i < g.size(); i++) for (int j = 0; j < h.size(); j++) {
            if (segmentsMeet(g.get(i), g.get((i + 1) % g.size()), h.get(j), h.get((j + 1) % h.size()))) return true;
        }
        return false;
    }

    /** The state of the heaps, copied for each deed. */
    static final class State {
        int[] x = new int[40], y = new int[40], heap = new int[40], dx = new int[4], dy = new int[4];
        int tick;

        State() { Arrays.fill(heap, -1); }

        State copy() {
            State s = new State();
            s.x = x.clone(); s.y = y.clone(); s.heap = heap.clone(); s.dx = dx.clone(); s.dy = dy.clone(); s.tick = tick;
            return s;
        }
        boolean has(int k) { return k >= 0 && k < 40 && heap[k] >= 0; }
        int free() {
            for (int k = 0; k < 40; k++) if (heap[k] < 0) return k;
            return -1;
        }
        long bits(int set) {
            long b = 0;
            for (int k = 0; k < 40; k++) if (heap[k] >= 0 && (set & 1 << heap[k]) != 0) b |= 1L << k;
            return b;
        }
        List<Spot> spots(long bits, int t) {
            TreeMap<Integer, Spot> by = new TreeMap<>();
            for (int k = 39; k >= 0; k--) if ((bits >> k & 1) != 0 && has(k)) {
                int px = x[k] + dx[heap[k]] * t, py = y[k] + dy[heap[k]] * t;
                by.put(px * 10000 + py, new Spot(px, py, k));
            }
            return new ArrayList<>(by.values());
        }
    }

    static final class Model {
        State s = new State();
        ArrayDeque<State> past = new ArrayDeque<>();
        StringBuilder tape = new StringBuilder();
        int fault = -1;
        String written = "";

        void deed() {
            past.addLast(s.copy());
            if (past.size() > 20) past.removeFirst();
        }
        static boolean near(int a, int b, int far) { return Math.abs((long) a) <= far && Math.abs((long) b) <= far; }
        List<Spot> spots(int set) { return set < 1 || set > 15 ? new ArrayList<>() : s.spots(s.bits(set), s.tick); }
        List<Spot> wide(int set) {
            List<Spot> h = spots(set).isEmpty() ? new ArrayList<>() : hullOf(spots(set));
            return h.size() < 3 ? null : h;
        }

        long feed(int[] w) {
            if (tape.length() + 20 > 400) return -1;
            for (int v : w) for (int i = 3; i >= 0; i--) tape.append((char) (v >>> 8 * i & 255));
            return tape.length();
        }
        long end(int n) {
            if (n < 0 || n > tape.length()) return -1;
            tape.setLength(n);
            return n;
        }

        /** Byte by byte over the places of an item: what is due there. */
        long text() {
            String t = tape.toString();
            tape.setLength(0);
            State ahead = s.copy();
            fault = -1;
            int items = 0, place = 0, start = 0, value = 0, digits = 0, numberAt = 0, first = 0, heap = 0;
            boolean pace = false, minus = false;
            for (int i = 0; i < t.length() && fault < 0; i++) {
                char c = t.charAt(i);
                boolean heapSign = c >= 'a' && c <= 'd', digit = c >= '0' && c <= '9';
                if (place == 0) {
                    start = i;
                    pace = c == 'p';
                    if (!pace && !heapSign || heapSign && s.free() < 0) fault = i;
                    heap = c - 'a';
                    place = pace ? 1 : 2;
                } else if (place == 1) {
                    if (!heapSign) fault = i;
                    heap = c - 'a';
                    place = 2;
                } else if (place == 2 || place == 5) {
                    numberAt = i; minus = c == '-'; digits = digit ? 1 : 0; value = digit ? c - '0' : 0;
                    if (!minus && !digit) fault = i;
                    place++;
                } else {
                    if (digit) {
                        if (++digits > 3) fault = i;
                        value = 10 * value + c - '0';
                    } else if (digits == 0) {
                        fault = i;
                    } else if (value > (pace ? 3 : 100)) {
                        fault = numberAt;
                    } else if (c != (place == 3 ? ',' : ';')) {
                        fault = i;
                    } else if (place == 3) {
                        first = minus ? -value : value;
                        place = 5;
                    } else {
                        int second = minus ? -value : value;
                        if (pace) { s.dx[heap] = first; s.dy[heap] = second; }
                        else { int k = s.free(); s.x[k] = first; s.y[k] = second; s.heap[k] = heap; }
                        items++;
                        place = 0;
                    }
                }
            }
            if (fault < 0 && place != 0) {
                boolean many = (place == 3 || place == 6) && digits > 0 && value > (pace ? 3 : 100);
                fault = many ? numberAt : t.length();
            }
            State now = s;
            s = ahead;
            if (fault >= 0) return -1;
            deed();
            s = now;
            return items;
        }

        long put(int x, int y, int heap) {
            int k = s.free();
            if (k < 0 || !near(x, y, 100) || heap < 0 || heap > 3) return -1;
            deed();
            s.x[k] = x; s.y[k] = y; s.heap[k] = heap;
            return k;
        }
        long gone(int k) {
            if (!s.has(k)) return 0;
            deed();
            s.heap[k] = -1;
            return 1;
        }
        long moved(int k, int x, int y) {
            if (!s.has(k) || !near(x, y, 100)) return 0;
            deed();
            s.x[k] = x; s.y[k] = y;
            return 1;
        }
        long pace(int h, int dx, int dy) {
            if (h < 0 || h > 3 || !near(dx, dy, 3)) return 0;
            deed();
            s.dx[h] = dx; s.dy[h] = dy;
            return 1;
        }
        long tick(int t) {
            if (t < 0 || t > 20) return -1;
            int was = s.tick;
            deed();
            s.tick = t;
            return was;
        }
        long back() {
            if (past.isEmpty()) return -1;
            s = past.removeLast();
            return past.size();
        }
        long is(int what) {
            switch (what) {
                case 0: return Long.bitCount(s.bits(15));
                case 1: return s.tick;
                case 2: return past.size();
                case 3: return tape.length();
                case 4: case 5: case 6: case 7: return Long.bitCount(s.bits(1 << what - 4));
                default: return -1;
            }
        }
        long point(int k, int what) {
            if (!s.has(k)) return -1000;
            int h = s.heap[k];
            long[] all = {s.x[k], s.y[k], h, s.x[k] + s.dx[h] * s.tick, s.y[k] + s.dy[h] * s.tick};
            return what < 0 || what > 4 ? -1000 : all[what];
        }
        long spotCount(int set) { return set < 1 || set > 15 ? -1 : spots(set).size(); }
        long spot(int set, int i, int what) {
            List<Spot> p = spots(set);
            if (i < 0 || i >= p.size() || what < 0 || what > 2) return -1000;
            return what == 0 ? p.get(i).x : what == 1 ? p.get(i).y : p.get(i).number;
        }
        long circle(int set, int what) {
            List<Spot> p = spots(set);
            if (p.isEmpty() || what < 0 || what > 5) return -1000;
            Q[] c = circleOf(p);
            return c[what < 2 ? 2 : what < 4 ? 0 : 1].part(what % 2);
        }
        long tight(int set, int i) {
            List<Spot> p = spots(set);
            if (p.isEmpty() || i < -1) return -1;
            List<Integer> t = tightOf(p);
            return i == -1 ? t.size() : i < t.size() ? t.get(i) : -1;
        }
        long rim(int set) {
            List<Spot> p = spots(set);
            if (p.isEmpty()) return -1;
            Q[] c = circleOf(p);
            int n = 0;
            for (Spot a : p) if (distTo(c[0], c[1], a).compareTo(c[2]) == 0) n++;
            return n;
        }
        long inside(int set, int x, int y) {
            List<Spot> p = spots(set);
            if (p.isEmpty() || !near(x, y, 300)) return -1;
            Q[] c = circleOf(p);
            return 1 - distTo(c[0], c[1], new Spot(x, y, -1)).compareTo(c[2]);
        }
        long needed(int set, int k) {
            List<Spot> p = spots(set);
            if (p.isEmpty() || !s.has(k) || (s.bits(set) >> k & 1) == 0) return -1;
            List<Spot> r = s.spots(s.bits(set) & ~(1L << k), s.tick);
            return r.isEmpty() || size(r).compareTo(size(p)) < 0 ? 1 : 0;
        }
        long proof(int set, long bits) {
            List<Spot> p = spots(set);
            if (p.isEmpty() || bits == 0) return -1;
            for (int k = 0; k < 64; k++) if ((bits >>> k & 1) != 0 && (k >= 40 || (s.bits(set) >>> k & 1) == 0)) return -1;
            return size(s.spots(bits, s.tick)).compareTo(size(p)) == 0 ? 1 : 0;
        }
        long when(int set, int m) {
            if (spots(set).isEmpty() || m < 0) return -1;
            for (int t = 0; t <= 20; t++) if (size(s.spots(s.bits(set), t)).compareTo(q(m)) > 0) return t;
            return -1;
        }
        long hull(int set, int i) {
            List<Spot> p = spots(set);
            if (p.isEmpty() || i < -1) return -1;
            List<Spot> h = hullOf(p);
            return i == -1 ? h.size() : i < h.size() ? h.get(i).number : -1;
        }
        long area(int set) {
            List<Spot> p = spots(set);
            if (p.isEmpty()) return -1;
            List<Spot> h = hullOf(p);
            long sum = 0;
            for (int i = 2; i < h.size(); i++) sum += cross(h.get(0), h.get(i - 1), h.get(i));
            return sum;
        }
        long layer(int set, int k) {
            List<Spot> p = spots(set);
            if (p.isEmpty() || k < -1) return -1;
            if (k >= 0 && (!s.has(k) || (s.bits(set) >> k & 1) == 0)) return -1;
            int round = 0;
            while (!p.isEmpty()) {
                List<Spot> c = corners(p);
                for (Spot a : c) if (k >= 0 && a.x == point(k, 3) && a.y == point(k, 4)) return round;
                p.removeAll(c);
                round++;
            }
            return round;
        }
        /** A fraction, and behind it the corner ahead, as (above, below, point). */
        static long told(Q v, long number, int what) { return what == 2 ? number : v.part(what); }

        static Q widthAlong(List<Spot> p, Spot a, Spot b) {
            long lo = Long.MAX_VALUE, hi = Long.MIN_VALUE;
            for (Spot c : p) { lo = Math.min(lo, cross(a, b, c)); hi = Math.max(hi, cross(a, b, c)); }
            return new Q((hi - lo) * (hi - lo), dist(a, b));
        }
        long strip(int set, int what) {
            List<Spot> h = wide(set);
            if (h == null || what < 0 || what > 2) return -1;
            List<Spot> p = spots(set);
            Q least = null;
            for (Spot a : p) for (Spot b : p) if (a != b && (least == null || widthAlong(p, a, b).compareTo(least) < 0)) least = widthAlong(p, a, b);
            for (int i = 0; i < h.size(); i++) {
                if (widthAlong(p, h.get(i), h.get((i + 1) % h.size())).compareTo(least) == 0) return told(least, h.get(i).number, what);
            }
            throw new IllegalStateException("no side for the strip");
        }
        static Q boxAlong(List<Spot> p, Spot a, Spot b) {
            long lo = Long.MAX_VALUE, hi = Long.MIN_VALUE, from = Long.MAX_VALUE, to = Long.MIN_VALUE;
            for (Spot c : p) {
                lo = Math.min(lo, cross(a, b, c)); hi = Math.max(hi, cross(a, b, c));
                long dot = (long) (b.x - a.x) * c.x + (long) (b.y - a.y) * c.y;
                from = Math.min(from, dot); to = Math.max(to, dot);
            }
            return new Q((hi - lo) * (to - from), dist(a, b));
        }
        long box(int set, int what) {
            List<Spot> h = wide(set);
            if (h == null || what < 0 || what > 2) return -1;
            List<Spot> p = spots(set);
            Q least = null;
            for (Spot a : p) for (Spot b : p) if (a != b && (least == null || boxAlong(p, a, b).compareTo(least) < 0)) least = boxAlong(p, a, b);
            for (int i = 0; i < h.size(); i++) {
                if (boxAlong(p, h.get(i), h.get((i + 1) % h.size())).compareTo(least) == 0) return told(least, h.get(i).number, what);
            }
            throw new IllegalStateException("no side for the box");
        }
        long couple(int set, int k, int what) {
            List<Spot> p = spots(set);
            List<int[]> all = new ArrayList<>();
            for (int i = 0; i < p.size(); i++) for (int j = i + 1; j < p.size(); j++) all.add(new int[] {(int) dist(p.get(i), p.get(j)), i, j});
            all.sort((a, b) -> a[0] != b[0] ? a[0] - b[0] : a[1] != b[1] ? a[1] - b[1] : a[2] - b[2]);
            if (k < 0 || k >= all.size() || what < 0 || what > 2) return -1;
            return what == 0 ? all.get(k)[0] : p.get(all.get(k)[what]).number;
        }
        long ring(int set, int what) {
            List<Spot> p = spots(set);
            if (wide(set) == null || p.size() > 12 || what < 0 || what > 9) return -1000;
            Q[] best = null;
            List<Spot[]> couples = new ArrayList<>();
            for (Spot a : p) for (Spot b : p) if (a.number < b.number) couples.add(new Spot[] {a, b});
            for (int i = 0; i < couples.size(); i++) for (int j = 0; j < i; j++) {
                Spot[] u = couples.get(i), v = couples.get(j);
                long a1 = 2L * (u[1].x - u[0].x), b1 = 2L * (u[1].y - u[0].y), c1 = sq(u[1]) - sq(u[0]);
                long a2 = 2L * (v[1].x - v[0].x), b2 = 2L * (v[1].y - v[0].y), c2 = sq(v[1]) - sq(v[0]);
                long det = a1 * b2 - a2 * b1;
                if (det == 0) continue;
                double fx = (double) (c1 * b2 - c2 * b1) / det, fy = (double) (a1 * c2 - a2 * c1) / det;
                if (best != null && roughGap(p, fx, fy) > (best[0].n.doubleValue() / best[0].d.doubleValue()) + 1) continue;
                Q x = new Q(c1 * b2 - c2 * b1, det), y = new Q(a1 * c2 - a2 * c1, det);
                Q in = null, out = null;
                for (Spot s : p) {
                    Q d = distTo(x, y, s);
                    if (in == null || d.compareTo(in) < 0) in = d;
                    if (out == null || d.compareTo(out) > 0) out = d;
                }
                Q[] tried = {out.minus(in), x, y, in, out};
                int c = best == null ? -1 : 0;
                for (int t = 0; t < 3 && c == 0; t++) c = tried[t].compareTo(best[t]);
                if (c < 0) best = tried;
            }
            Q[] told = {best[0], best[3], best[4], best[1], best[2]};
            return told[what / 2].part(what % 2);
        }
        static double roughGap(List<Spot> p, double x, double y) {
            double in = Double.MAX_VALUE, out = 0;
            for (Spot s : p) { double d = (s.x - x) * (s.x - x) + (s.y - y) * (s.y - y); in = Math.min(in, d); out = Math.max(out, d); }
            return (out - in) - 1e-6 * out;
        }
        static List<Spot> some(List<Spot> p, int bits) {
            List<Spot> r = new ArrayList<>();
            for (int i = 0; i < p.size(); i++) if ((bits >> i & 1) != 0) r.add(p.get(i));
            return r;
        }
        long two(int set, int what) {
            List<Spot> p = spots(set);
            if (p.size() < 2 || p.size() > 12 || what < 0 || what > 2) return -1;
            int all = (1 << p.size()) - 1, part = 0;
            Q[] sizes = new Q[all + 1];
            for (int bits = 1; bits <= all; bits++) sizes[bits] = size(some(p, bits));
            Q least = null;
            for (int bits = 1; bits < all; bits += 2) {
                Q greater = sizes[bits].compareTo(sizes[all ^ bits]) > 0 ? sizes[bits] : sizes[all ^ bits];
                if (least == null || greater.compareTo(least) < 0) { least = greater; part = bits; }
            }
            return told(least, part, what);
        }
        long fewer(int set, int least, int what) {
            List<Spot> p = spots(set);
            if (p.isEmpty() || p.size() > 12 || least < 1 || least > p.size() || what < 0 || what > 2) return -1;
            List<Q[]> all = new ArrayList<>();
            for (int bits = 1; bits < 1 << p.size(); bits++) {
                if (Integer.bitCount(bits) > 3) continue;
                Q[] c = through(some(p, bits).toArray(new Spot[0]));
                if (c != null) all.add(c);
            }
            Q size = null;
            int held = 0;
            for (Q[] c : all) {
                if (size != null && c[2].compareTo(size) > 0) continue;
                int bits = 0;
                for (int i = 0; i < p.size(); i++) if (distTo(c[0], c[1], p.get(i)).compareTo(c[2]) <= 0) bits |= 1 << i;
                int n = Integer.bitCount(bits);
                if (n < least) continue;
                int o = size == null ? -1 : c[2].compareTo(size);
                if (o == 0) o = Integer.bitCount(held) - n;
                if (o == 0) o = bits - held;
                if (o < 0) { size = c[2]; held = bits; }
            }
            return told(size, held, what);
        }
        long meetAt(int one, int other, int t) {
            if (spots(one).isEmpty() || spots(other).isEmpty()) return -1;
            return hullsMeet(hullOf(s.spots(s.bits(one), t)), hullOf(s.spots(s.bits(other), t))) ? 1 : 0;
        }
        long meets(int one, int other) { return meetAt(one, other, s.tick); }
        long meetsAt(int one, int other) {
            for (int t = 0; t <= 20; t++) if (meetAt(one, other, t) == 1) return t;
            return -1;
        }
        long worse(int set, int x, int y, int what) {
            List<Spot> p = spots(set);
            if (p.isEmpty() || !near(x, y, 150) || what < 0 || what > 2) return -1;
            List<Integer> tight = tightOf(p);
            List<Spot> more = new ArrayList<>(p);
            more.add(new Spot(x, y, 99));
            Q[] c = circleOf(more);
            int n = 0;
            for (Spot a : p) if (tight.contains(a.number) && distTo(c[0], c[1], a).compareTo(c[2]) == 0) n++;
            return told(c[2], n, what);
        }
        long calm(int set, int what) {
            if (spots(set).isEmpty() || what < 0 || what > 2) return -1;
            Q least = null;
            int at = 0;
            for (int t = 0; t <= 20; t++) {
                Q v = size(s.spots(s.bits(set), t));
                if (least == null || v.compareTo(least) < 0) { least = v; at = t; }
            }
            return what == 0 ? at : least.part(what - 1);
        }
        long reach(int set, int x, int y, int what) {
            List<Spot> p = spots(set);
            if (p.isEmpty() || !near(x, y, 100) || x == 0 && y == 0 || what < 0 || what > 3) return -1000;
            long hi = Long.MIN_VALUE, lo = Long.MAX_VALUE;
            for (Spot a : p) { hi = Math.max(hi, (long) x * a.x + (long) y * a.y); lo = Math.min(lo, (long) x * a.x + (long) y * a.y); }
            Q w = new Q((hi - lo) * (hi - lo), (long) x * x + (long) y * y);
            if (what == 1) return hi;
            if (what > 1) return w.part(what - 2);
            for (Spot a : hullOf(p)) if ((long) x * a.x + (long) y * a.y == hi) return a.number;
            throw new IllegalStateException("no corner for the reach");
        }
        long whole(int set, int what) {
            List<Spot> p = spots(set);
            if (p.isEmpty() || what < 0 || what > 1) return -1;
            List<Spot> h = hullOf(p);
            int x0 = 999, x1 = -999, y0 = 999, y1 = -999;
            for (Spot a : h) { x0 = Math.min(x0, a.x); x1 = Math.max(x1, a.x); y0 = Math.min(y0, a.y); y1 = Math.max(y1, a.y); }
            int[] n = new int[2];
            for (int x = x0; x <= x1; x++) for (int y = y0; y <= y1; y++) {
                Spot a = new Spot(x, y, -1);
                if (onHullRim(h, a)) n[0]++;
                else if (inHull(h, a)) n[1]++;
            }
            return n[what];
        }
        long sees(int set, int x, int y, int what) {
            List<Spot> h = wide(set);
            if (h == null || !near(x, y, 300) || what < 0 || what > 2) return -1;
            int n = h.size(), seen = 0, from = -1, to = -1;
            Spot p = new Spot(x, y, -1);
            boolean[] right = new boolean[n];
            for (int i = 0; i < n; i++) right[i] = cross(h.get(i), h.get((i + 1) % n), p) < 0;
            for (int i = 0; i < n; i++) {
                if (right[i]) seen++;
                if (right[i] && !right[(i + n - 1) % n]) from = h.get(i).number;
                if (right[i] && !right[(i + 1) % n]) to = h.get((i + 1) % n).number;
            }
            return what == 0 ? seen : what == 1 ? from : to;
        }
        long heaviest(int what) {
            if (what < 0 || what > 1) return -1;
            Q most = null;
            int heavy = -1;
            for (int set = 1; set < 16; set++) {
                if (Integer.bitCount(set) != what + 1 || spots(set).isEmpty()) continue;
                Q v = size(spots(set));
                if (most == null || v.compareTo(most) > 0) { most = v; heavy = set; }
            }
            return heavy;
        }
        /** Lines square to (u, v), all turned off the SPOTS by a tiny bit. */
        long deep(int set, int x, int y) {
            List<Spot> p = spots(set);
            if (p.isEmpty() || !near(x, y, 300)) return -1;
            int least = p.size();
            long big = 1000000;
            for (Spot a : p) for (int turn = -1; turn <= 1; turn += 2) for (int side = -1; side <= 1; side += 2) {
                long vx = a.x - x, vy = a.y - y, u = side * (-vy * big + turn * vx), v = side * (vx * big + turn * vy);
                int n = 0;
                for (Spot b : p) if (u * (b.x - x) + v * (b.y - y) >= 0) n++;
                least = Math.min(least, n);
            }
            return least;
        }
        long changes(int set) {
            if (spots(set).isEmpty()) return -1;
            int n = 0;
            for (int t = 1; t <= 20; t++) if (!tightOf(s.spots(s.bits(set), t)).equals(tightOf(s.spots(s.bits(set), t - 1)))) n++;
            return n;
        }
        long write(int set) {
            List<Spot> p = spots(set);
            if (p.isEmpty()) return -1;
            StringBuilder b = new StringBuilder();
            for (Spot a : hullOf(p)) b.append(a.x).append(',').append(a.y).append(';');
            written = b.toString();
            return written.length();
        }
        long octet(int k) { return k < 0 || k >= written.length() ? -1 : written.charAt(k); }
    }

    /** One object and the model beside it, over at most 512 calls. */
    static final class Run {
        static final int[] ODD = {-2147483648, 2147483647, -1000, 1000, -301, 301, 151, -151, 101, -101, 41, 40, 39, 64, 16, 21, -1, -2, 4, 3, 5, 12, 13};
        final int run;
        final TightRings rings = new TightRings();
        final Model model = new Model();
        long seed;
        int left = 512, span, grow, heaps, fast;
        String last = "";

        Run(int run) {
            this.run = run;
            seed = run * 7919L + 17;
            span = new int[] {1, 2, 4, 10, 40, 100}[pick(6)];
            grow = new int[] {4, 8, 12, 13, 20, 40}[pick(6)];
            heaps = 1 + pick(4);
            fast = pick(4);
        }
        int pick(int n) {
            seed = seed * 6364136223846793005L + 1442695040888963407L;
            return (int) ((seed >>> 33) % n);
        }
        boolean odd() { return pick(40) == 0; }
        int strange() { return ODD[pick(ODD.length)]; }
        int place() {
            if (odd()) return strange();
            return pick(2 * span + 1) - span;
        }
        int[] spotPlace() {
            int[][] round = {{25, 0}, {24, 7}, {20, 15}, {15, 20}, {7, 24}, {0, 25}, {16, 12}, {12, 16}, {20, 0}, {0, 20}};
            if (run % 5 == 1) {
                int[] r = round[pick(round.length)];
                return new int[] {pick(2) == 0 ? r[0] : -r[0], pick(2) == 0 ? r[1] : -r[1]};
            }
            if (run % 7 == 2) { int t = place(); return new int[] {t, Math.max(-100, Math.min(100, t / 2))}; }
            return new int[] {place(), place()};
        }
        int set() {
            if (odd()) return strange();
            return pick(3) == 0 ? 1 + pick(15) : pick(2) == 0 ? 15 : 1 << pick(heaps);
        }
        int number() { return odd() ? strange() : pick(3) == 0 ? pick(40) : pick(Math.max(1, (int) model.is(0))); }
        int what(int n) { return odd() ? strange() : pick(n); }
        int far(int far) { return pick(3) == 0 ? pick(2 * far + 3) - far - 1 : place(); }

        void go() {
            while (left > 0) {
                if (model.is(0) < grow && pick(3) > 0 || pick(9) == 0) deed();
                else ask(pick(28));
            }
        }
        void due(String call, long got, long want) {
            left--;
            calls++;
            if (got == want) return;
            wrong++;
            if (wrong < 30) System.out.println("run " + run + ": " + call + " answered " + got + ", due is " + want);
        }

        void deed() {
            int c = pick(20), k = number(), t = odd() ? strange() : pick(21), h = odd() ? strange() : pick(heaps);
            int[] p = spotPlace();
            if (model.is(0) > grow && c < 12) c = 13;
            if (c < 9) due("put", rings.put(p[0], p[1], h), model.put(p[0], p[1], h));
            else if (c < 12) feedText();
            else if (c == 13) due("gone(" + k + ")", rings.gone(k) ? 1 : 0, model.gone(k));
            else if (c < 16) due("moved(" + k + ")", rings.moved(k, p[0], p[1]) ? 1 : 0, model.moved(k, p[0], p[1]));
            else if (c == 16) { int dx = odd() ? strange() : pick(2 * fast + 1) - fast, dy = pick(2 * fast + 1) - fast; due("pace", rings.pace(h, dx, dy) ? 1 : 0, model.pace(h, dx, dy)); }
            else if (c == 17) due("tick(" + t + ")", rings.tick(t), model.tick(t));
            else for (int i = pick(pick(8) == 0 ? 25 : 3); i >= 0 && left > 0; i--) due("back", rings.back(), model.back());
            if (left > 0 && pick(4) == 0) { int w = what(8); due("is(" + w + ")", rings.is(w), model.is(w)); }
            if (left > 0 && pick(4) == 0) { int w = what(5); due("point(" + k + "," + w + ")", rings.point(k, w), model.point(k, w)); }
        }

        void feedText() {
            StringBuilder b = new StringBuilder();
            int items = pick(8) == 0 ? 20 + pick(30) : pick(6);
            for (int i = 0; i < items; i++) {
                int[] p = spotPlace();
                if (pick(4) == 0) b.append('p').append((char) ('a' + pick(heaps))).append(pick(2 * fast + 1) - fast).append(',').append(pick(2 * fast + 1) - fast).append(';');
                else b.append((char) ('a' + pick(heaps))).append(p[0] % 1000).append(',').append(p[1] % 1000).append(';');
            }
            for (int i = pick(3) == 0 ? 1 + pick(2) : 0; i > 0 && b.length() > 0; i--) {
                int at = pick(b.length());
                char c = "abcdep-,;0123459 \u00ff".charAt(pick(18));
                int how = pick(3);
                if (how == 0) b.setCharAt(at, c);
                else if (how == 1) b.insert(at, c);
                else b.setLength(at);
            }
            for (int i = 0; i < b.length() && left > 0; i += 20) {
                int[] w = new int[5];
                for (int j = 0; j < 20; j++) w[j / 4] |= (i + j < b.length() ? b.charAt(i + j) : pick(256)) << 24 - 8 * (j % 4);
                due("feed", rings.feed(w[0], w[1], w[2], w[3], w[4]), model.feed(w));
            }
            int n = odd() ? strange() : Math.min(400, b.length());
            if (left > 0) due("end(" + n + ")", rings.end(n), model.end(n));
            if (left > 0 && pick(10) > 0) due("text " + model.tape, rings.text(), model.text());
            if (left > 0) due("fault", rings.fault(), model.fault);
            if (left > 0) due("is(3)", rings.is(3), model.is(3));
        }

        void ask(int c) {
            int s = set(), o = set(), k = number(), x = place(), y = place();
            int bx = far(300), by = far(300), wx = far(150), wy = far(150);
            int index = pick(6) - 1;
            switch (c) {
                case 0: due("spots", rings.spots(s), model.spotCount(s)); break;
                case 1: { int w = what(3), i = number(); due("spot", rings.spot(s, i, w), model.spot(s, i, w)); break; }
                case 2: { int w = what(6); due("circle(" + s + "," + w + ")", rings.circle(s, w), model.circle(s, w)); break; }
                case 3: due("tight(" + s + "," + index + ")", rings.tight(s, index), model.tight(s, index)); break;
                case 4: due("rim", rings.rim(s), model.rim(s)); break;
                case 5: due("inside", rings.inside(s, bx, by), model.inside(s, bx, by)); break;
                case 6: due("needed", rings.needed(s, k), model.needed(s, k)); break;
                case 7: { long b = proofBits(s); due("proof(" + s + "," + b + ")", rings.proof(s, b), model.proof(s, b)); break; }
                case 8: { int m = odd() ? strange() : pick(2 * span * span + 2); due("when(" + s + "," + m + ")", rings.when(s, m), model.when(s, m)); break; }
                case 9: due("hull(" + s + "," + index + ")", rings.hull(s, index), model.hull(s, index)); break;
                case 10: due("area", rings.area(s), model.area(s)); break;
                case 11: { int i = pick(4) == 0 ? -1 : k; due("layer(" + s + "," + i + ")", rings.layer(s, i), model.layer(s, i)); break; }
                case 12: { int w = what(3); due("strip(" + s + "," + w + ")", rings.strip(s, w), model.strip(s, w)); break; }
                case 13: { int w = what(3), i = pick(3) == 0 ? pick(800) : pick(12); due("couple(" + s + "," + i + "," + w + ")", rings.couple(s, i, w), model.couple(s, i, w)); break; }
                case 14: { int w = what(10); due("ring(" + s + "," + w + ")", rings.ring(s, w), model.ring(s, w)); break; }
                case 15: if (pick(3) == 0) { int w = what(3); due("two(" + s + "," + w + ")", rings.two(s, w), model.two(s, w)); } break;
                case 16: { int w = what(3); due("box(" + s + "," + w + ")", rings.box(s, w), model.box(s, w)); break; }
                case 17: due("meets(" + s + "," + o + ")", rings.meets(s, o), model.meets(s, o)); break;
                case 18: { int w = what(3), n = 1 + pick(13); due("fewer(" + s + "," + n + "," + w + ")", rings.fewer(s, n, w), model.fewer(s, n, w)); break; }
                case 19: { int w = what(3); due("worse(" + s + "," + wx + "," + wy + "," + w + ")", rings.worse(s, wx, wy, w), model.worse(s, wx, wy, w)); break; }
                case 20: { int w = what(3); due("calm", rings.calm(s, w), model.calm(s, w)); break; }
                case 21: { int w = what(4); due("reach", rings.reach(s, x, y, w), model.reach(s, x, y, w)); break; }
                case 22: { int w = what(2); due("whole", rings.whole(s, w), model.whole(s, w)); break; }
                case 23: { int w = what(3); due("sees", rings.sees(s, bx, by, w), model.sees(s, bx, by, w)); break; }
                case 24: { int w = what(2); due("heaviest", rings.heaviest(w), model.heaviest(w)); break; }
                case 25: due("deep(" + s + "," + bx + "," + by + ")", rings.deep(s, bx, by), model.deep(s, bx, by)); break;
                case 26: if (pick(2) == 0) due("meetsAt", rings.meetsAt(s, o), model.meetsAt(s, o)); else due("changes", rings.changes(s), model.changes(s)); break;
                default:
                    due("write", rings.write(s), model.write(s));
                    for (int i = pick(4); i > 0 && left > 0; i--) { int w = odd() ? strange() : pick(60); due("octet(" + w + ")", rings.octet(w), model.octet(w)); }
            }
        }

        long proofBits(int s) {
            long all = s >= 1 && s <= 15 ? model.s.bits(s) : 0, bits = 0;
            int how = pick(8);
            if (how == 0) return all;
            if (how == 1) return ((long) pick(1 << 30) << 30 | pick(1 << 30)) >>> pick(60);
            if (how == 2) return all | 1L << 40 + pick(24);
            if (how < 6 && all != 0) for (int n : tightOf(model.spots(s))) bits |= 1L << n;
            for (int i = pick(4); i > 0; i--) bits |= all & 1L << pick(40);
            return bits;
        }
    }
}
