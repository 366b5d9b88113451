import java.math.BigInteger;
import java.util.ArrayList;
import java.util.List;

/** The "smallest", "narrowest", "first" of the Terms, each beside what is only tried: places, lines, parts, other calls. */
public final class WitnessTests {
    private static final int NONE = TightRings.NONE;
    private static final int ROUNDS = 500;
    private static final int[] SPANS = {2, 6, 40};
    private static final int[][] ROUND = {{5, 0}, {4, 3}, {3, 4}, {0, 5}, {-3, 4}, {-4, 3}, {-5, 0}, {-4, -3}, {3, -4}};
    /** Between two ways told by numbers up to 12 lies one that is told by numbers up to this. */
    private static final int FINE = 25;
    private static final BigInteger THOUSAND = BigInteger.valueOf(1000);

    private static long seed = 11;
    private static int checks = 0;
    private static int wrong = 0;
    private static String about = "";

    public static void main(String[] args) {
        int rounds = args.length > 0 ? Integer.parseInt(args[0]) : ROUNDS;
        for (int round = 0; round < rounds; round++) {
            int span = SPANS[round % SPANS.length];
            noSmallerCircle(some(1 + pick(20), span));
            noEarlierTight(some(1 + pick(10), span));
            noEarlierTight(someOnRound(3 + pick(7)));
            neededAsGone(some(1 + pick(12), span));
            rimAsInside(some(1 + pick(40), span));
            hullHoldsAll(some(3 + pick(30), span));
            layersAsTakenAway(some(1 + pick(25), span));
            noNarrowerStrip(some(3 + pick(12), span));
            noLesserBox(some(3 + pick(12), span));
            couplesInOrder(some(2 + pick(10), span));
            noLesserGap(some(3 + pick(10), span));
            partsAsHeaps(some(2 + pick(6), span));
            meetsUnlessParted(some(2 + pick(12), 6));
            worseAsPut(some(1 + pick(15), span), span);
            wholeByArea(some(1 + pick(20), span));
            seesAsPut(some(3 + pick(12), span), span);
            heaviestOfAll(some(1 + pick(20), span));
            deepByAllLines(some(1 + pick(20), 6));
            ticksAsTicked(some(1 + pick(12), span));
            writtenAsRead(some(1 + pick(20), span));
        }
        System.out.println(checks + " checks, " + wrong + " not as due");
        if (wrong != 0) System.exit(1);
    }

    private static int pick(int n) {
        seed = seed * 6364136223846793005L + 1442695040888963407L;
        return (int) ((seed >>> 33) % n);
    }

    private static int within(int span) {
        return pick(2 * span + 1) - span;
    }

    private static TightRings some(int points, int span) {
        TightRings x = new TightRings();
        about = "";
        for (int k = 0; k < points; k++) add(x, within(span), within(span));
        return x;
    }

    /** All on one rim, few of them opposite. */
    private static TightRings someOnRound(int points) {
        TightRings x = new TightRings();
        about = "";
        for (int k = 0; k < points; k++) {
            int[] place = ROUND[pick(ROUND.length)];
            add(x, place[0], place[1]);
        }
        return x;
    }

    private static void add(TightRings x, int px, int py) {
        int heap = pick(2);
        x.put(px, py, heap);
        about += (char) ('a' + heap) + "" + px + "," + py + ";";
    }

    private static void due(boolean holds, String what) {
        checks++;
        if (holds) return;
        wrong++;
        System.out.println(what + " does not hold for " + about);
    }

    /** The SPOTS of a SET: x, y, POINT. */
    private static int[][] spots(TightRings x, int set) {
        int[][] spots = new int[Math.max(0, x.spots(set))][];
        for (int i = 0; i < spots.length; i++) spots[i] = new int[] {x.spot(set, i, 0), x.spot(set, i, 1), x.spot(set, i, 2)};
        return spots;
    }

    private static int[][] corners(TightRings x, int set) {
        int[][] corners = new int[Math.max(0, x.hull(set, NONE))][];
        for (int i = 0; i < corners.length; i++) {
            int k = x.hull(set, i);
            corners[i] = new int[] {x.point(k, 3), x.point(k, 4), k};
        }
        return corners;
    }

    private static BigInteger big(long value) {
        return BigInteger.valueOf(value);
    }

    /** Of a / b and c / d: how they compare. */
    private static int order(BigInteger a, BigInteger b, BigInteger c, BigInteger d) {
        return a.multiply(d).compareTo(c.multiply(b));
    }

    private static int order(long a, long b, long c, long d) {
        return order(big(a), big(b), big(c), big(d));
    }

    /** The least and the greatest distance squared from px / q, py / q, both times q squared. */
    private static BigInteger[] distances(int[][] spots, BigInteger px, BigInteger py, BigInteger q) {
        BigInteger[] found = new BigInteger[2];
        for (int[] spot : spots) {
            BigInteger dx = q.multiply(big(spot[0])).subtract(px);
            BigInteger dy = q.multiply(big(spot[1])).subtract(py);
            BigInteger far = dx.multiply(dx).add(dy.multiply(dy));
            found[0] = found[0] == null ? far : found[0].min(far);
            found[1] = found[1] == null ? far : found[1].max(far);
        }
        return found;
    }

    private static BigInteger[] atCentre(int[][] spots, long x, long xBelow, long y, long yBelow) {
        return distances(spots, big(x).multiply(big(yBelow)), big(y).multiply(big(xBelow)), big(xBelow).multiply(big(yBelow)));
    }

    /** Places about a centre, near ones and far ones, in thousandths. */
    private static List<BigInteger[]> placesAbout(long x, long xBelow, long y, long yBelow) {
        List<BigInteger[]> places = new ArrayList<>();
        for (int step : new int[] {1, 30, 1000, 20000}) {
            for (int way = 0; way < 9; way++) {
                BigInteger px = big(Math.floorDiv(1000 * x, xBelow) + (way % 3 - 1) * step);
                BigInteger py = big(Math.floorDiv(1000 * y, yBelow) + (way / 3 - 1) * step);
                places.add(new BigInteger[] {px, py});
            }
        }
        return places;
    }

    /** The distance goes up all ways from the best place, so that it is enough to look about it. */
    private static void noSmallerCircle(TightRings x) {
        int[][] spots = spots(x, 3);
        long[] told = new long[6];
        for (int what = 0; what < 6; what++) told[what] = x.circle(3, what);
        BigInteger below = big(told[3]).multiply(big(told[5]));
        BigInteger far = atCentre(spots, told[2], told[3], told[4], told[5])[1];
        due(order(far, below.multiply(below), big(told[0]), big(told[1])) == 0, "the SIZE from the CENTRE");
        for (BigInteger[] place : placesAbout(told[2], told[3], told[4], told[5])) {
            BigInteger there = distances(spots, place[0], place[1], THOUSAND)[1];
            due(order(there, THOUSAND.multiply(THOUSAND), big(told[0]), big(told[1])) >= 0, "the smallest circle");
        }
    }

    /** By PROOFS: none has fewer POINTS, nor as many and lesser ones. */
    private static void noEarlierTight(TightRings x) {
        long told = 0;
        for (int i = 0; i < x.tight(3, NONE); i++) told |= 1L << x.tight(3, i);
        long first = 0;
        for (int count = 1; count <= 3 && first == 0; count++) first = firstProof(x, count, 0, 0);
        due(first == told, "TIGHT " + told + " as the first PROOF " + first);
    }

    private static long firstProof(TightRings x, int count, int from, long bits) {
        if (count == 0) return x.proof(3, bits) == 1 ? bits : 0;
        for (int k = from; k < x.is(0); k++) {
            long found = firstProof(x, count - 1, k + 1, bits | 1L << k);
            if (found != 0) return found;
        }
        return 0;
    }

    private static void neededAsGone(TightRings x) {
        long above = x.circle(3, 0);
        long below = x.circle(3, 1);
        for (int k = 0; k < 12 && x.point(k, 0) != -1000; k++) {
            int needed = x.needed(3, k);
            x.gone(k);
            boolean less = x.spots(3) == 0 || order(x.circle(3, 0), x.circle(3, 1), above, below) < 0;
            x.back();
            due(needed == (less ? 1 : 0), "NEEDED of " + k);
        }
    }

    private static void rimAsInside(TightRings x) {
        int onRim = 0;
        for (int[] spot : spots(x, 3)) {
            int in = x.inside(3, spot[0], spot[1]);
            due(in > 0, "IN of a SPOT");
            if (in == 1) onRim++;
        }
        due(x.rim(3) == onRim, "RIM");
    }

    /** Above 0 if c lies to the left of the way from a to b. */
    private static long turn(int[] a, int[] b, int[] c) {
        return (long) (b[0] - a[0]) * (c[1] - a[1]) - (long) (b[1] - a[1]) * (c[0] - a[0]);
    }

    private static void hullHoldsAll(TightRings x) {
        int[][] spots = spots(x, 3);
        int[][] corners = corners(x, 3);
        int n = corners.length;
        due(corners[0][2] == spots[0][2], "the HULL from the first SPOT on");
        for (int i = 0; i < n && n > 2; i++) {
            due(turn(corners[i], corners[(i + 1) % n], corners[(i + 2) % n]) > 0, "the HULL turning left");
            for (int[] spot : spots) due(turn(corners[i], corners[(i + 1) % n], spot) >= 0, "the HULL about all");
        }
        if (n > 2) return;
        for (int[] spot : spots) due(turn(spots[0], spots[spots.length - 1], spot) == 0, "SPOTS in one line");
        due(corners[n - 1][2] == spots[spots.length - 1][2], "the last one in one line");
    }

    private static void layersAsTakenAway(TightRings x) {
        int points = x.is(0);
        int[][] told = new int[points][];
        for (int k = 0; k < points; k++) told[k] = new int[] {x.point(k, 3), x.point(k, 4), x.layer(3, k)};
        int rounds = x.layer(3, NONE);
        for (int round = 0; round < rounds; round++) {
            for (int[] corner : corners(x, 3)) {
                for (int k = 0; k < points; k++) {
                    if (told[k][0] != corner[0] || told[k][1] != corner[1]) continue;
                    due(told[k][2] == round, "LAYER " + told[k][2] + " of " + k);
                    x.gone(k);
                }
            }
        }
        due(x.is(0) == 0, rounds + " LAYERS");
    }

    private static long extent(TightRings x, int u, int v) {
        return x.reach(3, u, v, 1) + x.reach(3, -u, -v, 1);
    }

    private static void noNarrowerStrip(TightRings x) {
        long above = x.strip(3, 0);
        long below = x.strip(3, 1);
        if (above == NONE) return;
        for (int i = 0; i < 60; i++) {
            int u = within(100);
            int v = 1 + pick(100);
            long wide = extent(x, u, v);
            due(order(wide * wide, (long) u * u + v * v, above, below) >= 0, "the narrowest STRIP");
            due(order(x.reach(3, u, v, 2), x.reach(3, u, v, 3), wide * wide, (long) u * u + v * v) == 0, "how wide it is");
        }
        int[] side = sideAt(x, (int) x.strip(3, 2));
        long wide = extent(x, -side[1], side[0]);
        due(order(wide * wide, (long) side[0] * side[0] + side[1] * side[1], above, below) == 0, "the STRIP along its side");
    }

    private static void noLesserBox(TightRings x) {
        long above = x.box(3, 0);
        long below = x.box(3, 1);
        if (above == NONE) return;
        for (int i = 0; i < 60; i++) {
            int u = within(100);
            int v = 1 + pick(100);
            due(order(extent(x, u, v) * extent(x, -v, u), (long) u * u + v * v, above, below) >= 0, "the BOX of least ROOM");
        }
        int[] s = sideAt(x, (int) x.box(3, 2));
        due(order(extent(x, s[0], s[1]) * extent(x, -s[1], s[0]), (long) s[0] * s[0] + s[1] * s[1], above, below) == 0, "the BOX along its side");
    }

    /** The way from the corner of POINT k to the next one. */
    private static int[] sideAt(TightRings x, int k) {
        int[][] corners = corners(x, 3);
        for (int i = 0; i < corners.length; i++) {
            int[] next = corners[(i + 1) % corners.length];
            if (corners[i][2] == k) return new int[] {next[0] - corners[i][0], next[1] - corners[i][1]};
        }
        return new int[] {1, 0};
    }

    private static void couplesInOrder(TightRings x) {
        int[][] spots = spots(x, 3);
        int[] place = new int[40];
        for (int i = 0; i < spots.length; i++) place[spots[i][2]] = i;
        int count = spots.length * (spots.length - 1) / 2;
        long ahead = -1;
        for (int k = 0; k < count; k++) {
            int i = place[x.couple(3, k, 1)];
            int j = place[x.couple(3, k, 2)];
            long dx = spots[j][0] - spots[i][0];
            long dy = spots[j][1] - spots[i][1];
            due(i < j && x.couple(3, k, 0) == dx * dx + dy * dy, "COUPLE " + k);
            long now = ((dx * dx + dy * dy) * 100 + i) * 100 + j;
            due(now > ahead, "the COUPLES' order at " + k);
            ahead = now;
        }
        due(x.couple(3, count, 0) == NONE, "no more COUPLES");
    }

    /** As for the circle: the gap goes up all ways from the best places. */
    private static void noLesserGap(TightRings x) {
        int[][] spots = spots(x, 3);
        long[] told = new long[10];
        for (int what = 0; what < 10; what++) told[what] = x.ring(3, what);
        if (told[1] < 1) return;
        BigInteger below = big(told[7]).multiply(big(told[9]));
        BigInteger[] here = atCentre(spots, told[6], told[7], told[8], told[9]);
        due(order(here[0], below.multiply(below), big(told[2]), big(told[3])) == 0, "INNER from the CENTRE");
        due(order(here[1], below.multiply(below), big(told[4]), big(told[5])) == 0, "OUTER from the CENTRE");
        due(order(here[1].subtract(here[0]), below.multiply(below), big(told[0]), big(told[1])) == 0, "GAP from the CENTRE");
        for (BigInteger[] place : placesAbout(told[6], told[7], told[8], told[9])) {
            BigInteger[] there = distances(spots, place[0], place[1], THOUSAND);
            due(order(there[1].subtract(there[0]), THOUSAND.multiply(THOUSAND), big(told[0]), big(told[1])) >= 0, "the least GAP");
        }
    }

    /** FEWER and TWO, by the circles of all parts, each a heap of its own. */
    private static void partsAsHeaps(TightRings x) {
        int[][] spots = spots(x, 3);
        int all = (1 << spots.length) - 1;
        long[][] sizes = new long[all + 1][];
        for (int bits = 1; bits <= all; bits++) {
            TightRings part = new TightRings();
            for (int i = 0; i < spots.length; i++) if ((bits >> i & 1) != 0) part.put(spots[i][0], spots[i][1], 0);
            sizes[bits] = new long[] {part.circle(1, 0), part.circle(1, 1)};
        }
        for (int least = 1; least <= spots.length; least++) fewerOfParts(x, sizes, least);
        if (all > 1) twoOfParts(x, sizes, all);
    }

    private static int order(long[] a, long[] b) {
        return order(a[0], a[1], b[0], b[1]);
    }

    private static void fewerOfParts(TightRings x, long[][] sizes, int least) {
        int best = 0;
        for (int bits = 1; bits < sizes.length; bits++) {
            if (Integer.bitCount(bits) < least) continue;
            int order = best == 0 ? -1 : order(sizes[bits], sizes[best]);
            if (order < 0 || order == 0 && Integer.bitCount(bits) > Integer.bitCount(best)) best = bits;
        }
        due(x.fewer(3, least, 0) == sizes[best][0] && x.fewer(3, least, 1) == sizes[best][1], "the SIZE of FEWER with " + least);
        due(x.fewer(3, least, 2) == best, "the SPOTS of FEWER with " + least);
    }

    private static void twoOfParts(TightRings x, long[][] sizes, int all) {
        int best = 0;
        long[] size = null;
        for (int bits = 1; bits < all; bits += 2) {
            long[] greater = order(sizes[bits], sizes[all ^ bits]) > 0 ? sizes[bits] : sizes[all ^ bits];
            if (size != null && order(greater, size) >= 0) continue;
            size = greater;
            best = bits;
        }
        due(x.two(3, 0) == size[0] && x.two(3, 1) == size[1], "the SIZE of TWO");
        due(x.two(3, 2) == best, "the parts of TWO");
    }

    /** Two that do not MEET have a line between them; of all its ways one is told by small numbers. */
    private static void meetsUnlessParted(TightRings x) {
        int[][] one = spots(x, 1);
        int[][] other = spots(x, 2);
        boolean parted = false;
        for (int u = -FINE; u <= FINE; u++) {
            for (int v = -FINE; v <= FINE; v++) parted |= most(one, u, v) < -most(other, -u, -v);
        }
        int due = one.length == 0 || other.length == 0 ? NONE : parted ? 0 : 1;
        due(x.meets(1, 2) == due && x.meets(2, 1) == due, "MEET");
    }

    private static int most(int[][] spots, int u, int v) {
        int most = Integer.MIN_VALUE;
        for (int[] spot : spots) most = Math.max(most, u * spot[0] + v * spot[1]);
        return most == Integer.MIN_VALUE ? 1 << 20 : most;
    }

    private static void worseAsPut(TightRings x, int span) {
        int px = within(span + 5);
        int py = within(span + 5);
        int[] tight = new int[x.tight(3, NONE)];
        for (int i = 0; i < tight.length; i++) tight[i] = x.tight(3, i);
        long[] told = {x.worse(3, px, py, 0), x.worse(3, px, py, 1), x.worse(3, px, py, 2)};
        x.put(px, py, 3);
        int onRim = 0;
        for (int k : tight) if (x.inside(11, x.point(k, 3), x.point(k, 4)) == 1) onRim++;
        due(told[0] == x.circle(11, 0) && told[1] == x.circle(11, 1), "the SIZE of WORSE by " + px + "," + py);
        due(told[2] == onRim, "the TIGHT ones of WORSE by " + px + "," + py);
    }

    /** Pick's rule, and one by one along a line. */
    private static void wholeByArea(TightRings x) {
        int[][] corners = corners(x, 3);
        int n = corners.length;
        int onRim = n == 1 ? 1 : n == 2 ? 1 + steps(corners[0], corners[1]) : 0;
        for (int i = 0; i < n && n > 2; i++) onRim += steps(corners[i], corners[(i + 1) % n]);
        due(x.whole(3, 0) == onRim, "WHOLE places on the rim");
        due(x.whole(3, 1) == (n < 3 ? 0 : (x.area(3) - onRim + 2) / 2), "WHOLE places within");
    }

    private static int steps(int[] a, int[] b) {
        return BigInteger.valueOf(b[0] - a[0]).gcd(BigInteger.valueOf(b[1] - a[1])).intValue();
    }

    /** A POINT put there would be a corner between those two, unless it lies in line with a side. */
    private static void seesAsPut(TightRings x, int span) {
        int px = within(2 * span);
        int py = within(2 * span);
        int[] place = {px, py};
        int sides = x.sees(3, px, py, 0);
        int from = x.sees(3, px, py, 1);
        int to = x.sees(3, px, py, 2);
        int[][] corners = corners(x, 3);
        int n = corners.length;
        if (n < 3) {
            due(sides == NONE && from == NONE && to == NONE, "SEEN in one line");
            return;
        }
        int right = 0;
        int first = NONE;
        int last = NONE;
        boolean inLine = false;
        for (int i = 0; i < n; i++) {
            long turn = turn(corners[i], corners[(i + 1) % n], place);
            boolean rightAhead = turn(corners[(i + n - 1) % n], corners[i], place) < 0;
            if (turn < 0) right++;
            if (turn < 0 && !rightAhead) first = corners[i][2];
            if (turn >= 0 && rightAhead) last = corners[i][2];
            inLine |= turn == 0;
        }
        due(sides == right && from == first && to == last, "the sides SEEN from " + px + "," + py);
        if (right == 0 || inLine) return;
        int k = x.put(px, py, 0);
        int[][] more = corners(x, 3);
        for (int i = 0; i < more.length; i++) {
            if (more[i][0] != px || more[i][1] != py) continue;
            due(more[(i + more.length - 1) % more.length][2] == from, "where they begin for " + k);
            due(more[(i + 1) % more.length][2] == to, "where they end for " + k);
        }
    }

    private static void heaviestOfAll(TightRings x) {
        x.moved(0, x.point(0, 0), -x.point(0, 1));
        for (int i = 0; i < 3; i++) x.put(within(5), within(5), 3);
        for (int what = 0; what < 2; what++) {
            int heavy = x.heaviest(what);
            due(Integer.bitCount(heavy) == what + 1, "HEAVIEST " + what);
            for (int set = 1; set < 16; set++) {
                if (Integer.bitCount(set) != what + 1 || x.spots(set) == 0) continue;
                int order = order(x.circle(set, 0), x.circle(set, 1), x.circle(heavy, 0), x.circle(heavy, 1));
                due(order < 0 || order == 0 && set >= heavy, "HEAVIEST " + heavy + " beside " + set);
            }
        }
    }

    /** Of the ways between those to the SPOTS, each is told by small numbers. */
    private static void deepByAllLines(TightRings x) {
        int[][] spots = spots(x, 3);
        int px = within(6);
        int py = within(6);
        int least = spots.length;
        for (int u = -FINE; u <= FINE; u++) {
            for (int v = -FINE; v <= FINE; v++) {
                int found = 0;
                for (int[] spot : spots) if (u * (spot[0] - px) + v * (spot[1] - py) >= 0) found++;
                if (u != 0 || v != 0) least = Math.min(least, found);
            }
        }
        due(x.deep(3, px, py) == least, "DEEP at " + px + "," + py);
    }

    /** CALM, WHEN, CHANGES and where two MEET, TICK by TICK. */
    private static void ticksAsTicked(TightRings x) {
        x.pace(0, within(3), within(3));
        x.pace(1, within(3), within(3));
        x.tick(pick(21));
        long[] told = {x.calm(3, 0), x.calm(3, 1), x.calm(3, 2), x.changes(3), x.meetsAt(1, 2)};
        long bound = x.circle(3, 0) / x.circle(3, 1);
        int when = x.when(3, (int) bound);
        int calmest = 0;
        int over = NONE;
        int met = NONE;
        int changed = 0;
        long[][] sizes = new long[21][];
        String ahead = "";
        for (int t = 0; t <= 20; t++) {
            x.tick(t);
            sizes[t] = new long[] {x.circle(3, 0), x.circle(3, 1)};
            String tight = x.tight(3, 0) + " " + x.tight(3, 1) + " " + x.tight(3, 2);
            if (t > 0 && !tight.equals(ahead)) changed++;
            ahead = tight;
            if (order(sizes[t], sizes[calmest]) < 0) calmest = t;
            if (over == NONE && order(sizes[t], new long[] {bound, 1}) > 0) over = t;
            if (met == NONE && x.meets(1, 2) == 1) met = t;
        }
        due(told[0] == calmest && told[1] == sizes[calmest][0] && told[2] == sizes[calmest][1], "CALM");
        due(told[3] == changed, "CHANGES");
        due(told[4] == met, "the first TICK at which they MEET");
        due(when == over, "WHEN over " + bound);
    }

    /** What is written of the corners, each as a POINT of HEAP 0 again, has the same HULL. */
    private static void writtenAsRead(TightRings x) {
        int[][] corners = corners(x, 3);
        TightRings read = new TightRings();
        StringBuilder text = new StringBuilder("a");
        int length = x.write(3);
        for (int k = 0; k < length; k++) {
            text.append((char) x.octet(k));
            if (x.octet(k) == ';' && k < length - 1) text.append('a');
        }
        while (text.length() % 20 != 0) text.append(' ');
        for (int at = 0; at < text.length(); at += 20) {
            read.feed(word(text, at), word(text, at + 4), word(text, at + 8), word(text, at + 12), word(text, at + 16));
        }
        read.end(length + corners.length);
        due(read.text() == corners.length, "as many ITEMS as corners");
        for (int i = 0; i < corners.length; i++) {
            due(read.point(i, 0) == corners[i][0] && read.point(i, 1) == corners[i][1], "corner " + i + " as written");
            due(read.hull(1, i) == i, "the HULL as written");
        }
        due(x.octet(length) == NONE && x.octet(-1) == NONE, "no more bytes");
    }

    private static int word(StringBuilder text, int at) {
        return text.charAt(at) << 24 | text.charAt(at + 1) << 16 | text.charAt(at + 2) << 8 | text.charAt(at + 3);
    }
}
