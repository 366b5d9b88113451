/** Heaps of points that move; the smallest circles, strips and rings about some of them, by exact numbers. */
public final class TightRings {
    public static final int NONE = -1;

    /** The answer that says "none" where -1 may be a place. */
    private static final int OTHER = -1000;
    private static final int POINTS = 40;
    private static final int HEAPS = 4;
    private static final int SETS = 15;
    private static final int TICKS = 20;
    private static final int DEEDS = 20;
    private static final int FAR = 100;
    private static final int FAST = 3;
    private static final int FAR_TO_LOOK = 300;
    private static final int FAR_TO_ADD = 150;
    private static final int FEW = 12;
    private static final int ABREAST = 20;

    private final Heaps heaps;
    private final Tape tape;
    private final Spots here;
    private final Spots there;
    private final Circle round;
    private final Circle second;
    private final Hull outline;
    private final Hull facing;
    private final Layers layers;
    private final Couples couples;
    private final Ring band;
    private final Discs discs;
    private final Written written;
    private final Fraction answer;
    private final Fraction best;
    private final int[] tightAhead;

    public TightRings() {
        heaps = new Heaps();
        tape = new Tape();
        here = new Spots();
        there = new Spots();
        round = new Circle();
        second = new Circle();
        outline = new Hull();
        facing = new Hull();
        layers = new Layers();
        couples = new Couples();
        band = new Ring();
        discs = new Discs();
        written = new Written();
        answer = new Fraction();
        best = new Fraction();
        tightAhead = new int[3];
    }

    public int feed(int a, int b, int c, int d, int e) {
        if (!tape.hasRoom(ABREAST)) return NONE;
        tape.take(a);
        tape.take(b);
        tape.take(c);
        tape.take(d);
        tape.take(e);
        return tape.length();
    }

    public int end(int n) {
        return tape.cut(n) ? n : NONE;
    }

    public int text() {
        return tape.read(heaps);
    }

    public int fault() {
        return tape.faultPlace();
    }

    public int put(int x, int y, int heap) {
        int k = heaps.free();
        if (k == NONE || !isNear(x, y, FAR) || !isHeap(heap)) return NONE;
        heaps.mark();
        heaps.place(k, x, y, heap);
        heaps.keep();
        return k;
    }

    public boolean gone(int k) {
        if (!heaps.has(k)) return false;
        heaps.mark();
        heaps.remove(k);
        heaps.keep();
        return true;
    }

    public boolean moved(int k, int x, int y) {
        if (!heaps.has(k) || !isNear(x, y, FAR)) return false;
        heaps.mark();
        heaps.place(k, x, y, heaps.heapOf(k));
        heaps.keep();
        return true;
    }

    public boolean pace(int heap, int dx, int dy) {
        if (!isHeap(heap) || !isNear(dx, dy, FAST)) return false;
        heaps.mark();
        heaps.setPace(heap, dx, dy);
        heaps.keep();
        return true;
    }

    public int tick(int t) {
        if (t < 0 || t > TICKS) return NONE;
        int ahead = heaps.now();
        heaps.mark();
        heaps.setNow(t);
        heaps.keep();
        return ahead;
    }

    public int back() {
        return heaps.takeBack();
    }

    public int is(int what) {
        if (what == 0) return Long.bitCount(heaps.bits(SETS));
        if (what == 1) return heaps.now();
        if (what == 2) return heaps.deeds();
        if (what == 3) return tape.length();
        if (what >= 4 && what < 4 + HEAPS) return Long.bitCount(heaps.bits(1 << (what - 4)));
        return NONE;
    }

    public int point(int k, int what) {
        if (!heaps.has(k)) return OTHER;
        if (what == 0) return heaps.x(k);
        if (what == 1) return heaps.y(k);
        if (what == 2) return heaps.heapOf(k);
        if (what == 3) return heaps.standX(k, heaps.now());
        if (what == 4) return heaps.standY(k, heaps.now());
        return OTHER;
    }

    public int spots(int set) {
        if (!isSet(set)) return NONE;
        gather(set);
        return here.count();
    }

    public int spot(int set, int i, int what) {
        if (!gather(set) || i < 0 || i >= here.count()) return OTHER;
        if (what == 0) return here.x(i);
        if (what == 1) return here.y(i);
        if (what == 2) return here.number(i);
        return OTHER;
    }

    public long circle(int set, int what) {
        if (what < 0 || what > 5 || !gather(set)) return OTHER;
        round.about(here);
        if (what < 2) round.size(answer);
        else if (what < 4) round.middleX(answer);
        else round.middleY(answer);
        return answer.part(what % 2);
    }

    public int tight(int set, int i) {
        if (i < NONE || !gather(set)) return NONE;
        round.about(here);
        round.seekTight(here);
        return i == NONE ? round.tightCount() : round.tightNumber(i);
    }

    public int rim(int set) {
        if (!gather(set)) return NONE;
        round.about(here);
        return round.countOnRim(here);
    }

    public int inside(int set, int x, int y) {
        if (!isNear(x, y, FAR_TO_LOOK) || !gather(set)) return NONE;
        round.about(here);
        return 1 - round.side(x, y);
    }

    public int needed(int set, int k) {
        if (!gather(set) || !heaps.has(k)) return NONE;
        long bits = heaps.bits(set);
        if ((bits & 1L << k) == 0) return NONE;
        round.about(here);
        there.collect(heaps, bits & ~(1L << k), heaps.now());
        if (there.count() == 0) return 1;
        second.about(there);
        return second.sizeAgainst(round) < 0 ? 1 : 0;
    }

    public int proof(int set, long points) {
        if (points == 0 || !gather(set) || (points & ~heaps.bits(set)) != 0) return NONE;
        round.about(here);
        there.collect(heaps, points, heaps.now());
        second.about(there);
        return second.sizeAgainst(round) == 0 ? 1 : 0;
    }

    public int when(int set, int m) {
        if (m < 0) return NONE;
        for (int t = 0; t <= TICKS; t++) {
            if (!gatherAt(here, set, t)) return NONE;
            round.about(here);
            round.size(answer);
            if (answer.against(m, 1) > 0) return t;
        }
        return NONE;
    }

    public int hull(int set, int i) {
        if (i < NONE || !gather(set)) return NONE;
        outline.about(here);
        return i == NONE ? outline.count() : outline.number(i);
    }

    public int area(int set) {
        if (!gather(set)) return NONE;
        outline.about(here);
        return (int) outline.twiceArea();
    }

    public int layer(int set, int k) {
        if (!gather(set)) return NONE;
        if (k == NONE) return layers.peel(here);
        if (!heaps.has(k) || (heaps.bits(set) & 1L << k) == 0) return NONE;
        layers.peel(here);
        int spot = here.indexOf(heaps.standX(k, heaps.now()), heaps.standY(k, heaps.now()));
        return layers.layerOf(here.number(spot));
    }

    public long strip(int set, int what) {
        if (what < 0 || what > 2 || !outlineIsWide(set)) return NONE;
        int corner = outline.narrowest(answer);
        return what == 2 ? corner : answer.part(what);
    }

    public int couple(int set, int k, int what) {
        if (k < 0 || what < 0 || what > 2 || !gather(set)) return NONE;
        couples.order(here);
        if (k >= couples.count()) return NONE;
        if (what == 0) return couples.distance(k);
        return here.number(what == 1 ? couples.first(k) : couples.second(k));
    }

    public long ring(int set, int what) {
        if (what < 0 || what > 9 || !outlineIsWide(set) || here.count() > FEW) return OTHER;
        couples.order(here);
        band.about(here, couples);
        band.tell(what / 2, answer);
        return answer.part(what % 2);
    }

    public long two(int set, int what) {
        if (what < 0 || what > 2 || !gather(set) || here.count() < 2 || here.count() > FEW) return NONE;
        discs.about(here);
        int part = discs.parting(answer);
        return what == 2 ? part : answer.part(what);
    }

    public long box(int set, int what) {
        if (what < 0 || what > 2 || !outlineIsWide(set)) return NONE;
        int corner = outline.leastBox(answer);
        return what == 2 ? corner : answer.part(what);
    }

    public int meets(int one, int other) {
        return meetAt(one, other, heaps.now());
    }

    public long fewer(int set, int least, int what) {
        if (what < 0 || what > 2 || least < 1 || !gather(set)) return NONE;
        if (here.count() > FEW || least > here.count()) return NONE;
        discs.about(here);
        int bits = discs.holding(least, answer);
        return what == 2 ? bits : answer.part(what);
    }

    public long worse(int set, int x, int y, int what) {
        if (what < 0 || what > 2 || !isNear(x, y, FAR_TO_ADD) || !gather(set)) return NONE;
        round.about(here);
        round.seekTight(here);
        here.add(x, y, POINTS);
        second.about(here);
        if (what == 2) return countTightOnSecond();
        second.size(answer);
        return answer.part(what);
    }

    public long calm(int set, int what) {
        if (what < 0 || what > 2) return NONE;
        int calmest = 0;
        for (int t = 0; t <= TICKS; t++) {
            if (!gatherAt(here, set, t)) return NONE;
            round.about(here);
            round.size(answer);
            if (t == 0 || answer.against(best.part(0), best.part(1)) < 0) {
                best.set(answer.part(0), answer.part(1));
                calmest = t;
            }
        }
        return what == 0 ? calmest : best.part(what - 1);
    }

    public long reach(int set, int x, int y, int what) {
        if (what < 0 || what > 3 || !isNear(x, y, FAR) || x == 0 && y == 0 || !gather(set)) return OTHER;
        outline.about(here);
        if (what == 0) return outline.number(outline.farthest(x, y));
        long most = outline.most(x, y);
        if (what == 1) return most;
        long wide = most - outline.least(x, y);
        answer.set(wide * wide, (long) x * x + (long) y * y);
        return answer.part(what - 2);
    }

    public int whole(int set, int what) {
        if (what < 0 || what > 1 || !gather(set)) return NONE;
        outline.about(here);
        return (int) (what == 0 ? outline.wholeOnRim() : outline.wholeWithin());
    }

    public int sees(int set, int x, int y, int what) {
        if (what < 0 || what > 2 || !isNear(x, y, FAR_TO_LOOK) || !outlineIsWide(set)) return NONE;
        if (what == 0) return outline.sidesSeen(x, y);
        return what == 1 ? outline.seenFrom(x, y) : outline.seenTo(x, y);
    }

    public int heaviest(int what) {
        if (what < 0 || what > 1) return NONE;
        int heavy = NONE;
        for (int set = 1; set <= SETS; set++) {
            if (Integer.bitCount(set) != what + 1 || !gather(set)) continue;
            round.about(here);
            round.size(answer);
            if (heavy == NONE || answer.against(best.part(0), best.part(1)) > 0) {
                best.set(answer.part(0), answer.part(1));
                heavy = set;
            }
        }
        return heavy;
    }

    public int deep(int set, int x, int y) {
        if (!isNear(x, y, FAR_TO_LOOK) || !gather(set)) return NONE;
        return here.depth(x, y);
    }

    public int meetsAt(int one, int other) {
        for (int t = 0; t <= TICKS; t++) {
            int met = meetAt(one, other, t);
            if (met == NONE) return NONE;
            if (met == 1) return t;
        }
        return NONE;
    }

    public int changes(int set) {
        int changed = 0;
        for (int t = 0; t <= TICKS; t++) {
            if (!gatherAt(here, set, t)) return NONE;
            round.about(here);
            round.seekTight(here);
            if (t > 0 && !tightIsAsAhead()) changed++;
            for (int i = 0; i < tightAhead.length; i++) tightAhead[i] = round.tightNumber(i);
        }
        return changed;
    }

    public int write(int set) {
        if (!gather(set)) return NONE;
        outline.about(here);
        written.clear();
        for (int i = 0; i < outline.count(); i++) {
            written.addNumber(outline.x(i));
            written.addByte(',');
            written.addNumber(outline.y(i));
            written.addByte(';');
        }
        return written.length();
    }

    public int octet(int k) {
        return written.at(k);
    }

    private static boolean isSet(int set) {
        return set >= 1 && set <= SETS;
    }

    private static boolean isHeap(int heap) {
        return heap >= 0 && heap < HEAPS;
    }

    private static boolean isNear(int x, int y, int far) {
        return x >= -far && x <= far && y >= -far && y <= far;
    }

    /** Brings the SPOTS of a SET, as they are now, into here: whether there are any. */
    private boolean gather(int set) {
        return gatherAt(here, set, heaps.now());
    }

    private boolean gatherAt(Spots spots, int set, int tick) {
        if (!isSet(set)) return false;
        spots.collect(heaps, heaps.bits(set), tick);
        return spots.count() > 0;
    }

    /** Makes the HULL of a SET: whether its SPOTS are there, and not in one line. */
    private boolean outlineIsWide(int set) {
        if (!gather(set)) return false;
        outline.about(here);
        return outline.count() > 2;
    }

    private int meetAt(int one, int another, int tick) {
        if (!gatherAt(here, one, tick) || !gatherAt(there, another, tick)) return NONE;
        outline.about(here);
        facing.about(there);
        return outline.touches(facing) ? 1 : 0;
    }

    private int countTightOnSecond() {
        int now = heaps.now();
        int found = 0;
        for (int i = 0; i < round.tightCount(); i++) {
            int k = round.tightNumber(i);
            if (second.side(heaps.standX(k, now), heaps.standY(k, now)) == 0) found++;
        }
        return found;
    }

    private boolean tightIsAsAhead() {
        for (int i = 0; i < tightAhead.length; i++) {
            if (tightAhead[i] != round.tightNumber(i)) return false;
        }
        return true;
    }

    /** A number told above and below in lowest terms. */
    private static final class Fraction {
        /** Euclid's steps over two longs stay under a hundred. */
        private static final int STEPS = 200;

        private long above;
        private long below = 1;

        void set(long newAbove, long newBelow) {
            long shared = gcd(newAbove, newBelow);
            boolean upsideDown = newBelow < 0;
            if (newBelow == 0 || shared == 0) {
                above = 0;
                below = 1;
                return;
            }
            above = (upsideDown ? -newAbove : newAbove) / shared;
            below = (upsideDown ? -newBelow : newBelow) / shared;
        }

        long part(int which) {
            return which == 0 ? above : below;
        }

        int against(long otherAbove, long otherBelow) {
            return compare(above, below, otherAbove, otherBelow);
        }

        static long gcd(long a, long b) {
            long big = Math.abs(a);
            long small = Math.abs(b);
            for (int step = 0; step < STEPS && small != 0; step++) {
                long left = big % small;
                big = small;
                small = left;
            }
            return big;
        }

        /** Compares a/b and c/d (b, d above 0) by whole parts, since their cross products need not fit a long. */
        static int compare(long a, long b, long c, long d) {
            long top = a;
            long bottom = b;
            long otherTop = c;
            long otherBottom = d;
            for (int step = 0; step < STEPS && bottom > 0 && otherBottom > 0; step++) {
                long whole = Math.floorDiv(top, bottom);
                long otherWhole = Math.floorDiv(otherTop, otherBottom);
                long left = top - whole * bottom;
                long otherLeft = otherTop - otherWhole * otherBottom;
                if (whole != otherWhole) return whole < otherWhole ? -1 : 1;
                if (left == 0 || otherLeft == 0) return Long.compare(left, otherLeft);
                // What is left compares as its reciprocals do, the other way round.
                top = otherBottom;
                otherTop = bottom;
                bottom = otherLeft;
                otherBottom = left;
            }
            return 0;
        }
    }

    /** POINTS, PACES and TICK, and how they were ahead of each of the latest DEEDS. */
    private static final class Heaps {
        private static final int XS = 0;
        private static final int YS = POINTS;
        private static final int OWNERS = 2 * POINTS;
        private static final int DXS = 3 * POINTS;
        private static final int DYS = DXS + HEAPS;
        private static final int TICK = DYS + HEAPS;
        private static final int WIDTH = TICK + 1;

        private final int[] state = new int[WIDTH];
        private final int[] marked = new int[WIDTH];
        private final int[][] kept = new int[DEEDS][WIDTH];
        private int newest = DEEDS - 1;
        private int deeds;

        Heaps() {
            for (int k = 0; k < POINTS; k++) state[OWNERS + k] = NONE;
        }

        boolean has(int k) {
            return k >= 0 && k < POINTS && state[OWNERS + k] != NONE;
        }

        int free() {
            for (int k = 0; k < POINTS; k++) {
                if (state[OWNERS + k] == NONE) return k;
            }
            return NONE;
        }

        void place(int k, int x, int y, int heap) {
            if (k < 0 || k >= POINTS || !isHeap(heap)) return;
            state[XS + k] = x;
            state[YS + k] = y;
            state[OWNERS + k] = heap;
        }

        void remove(int k) {
            if (has(k)) state[OWNERS + k] = NONE;
        }

        void setPace(int heap, int dx, int dy) {
            if (!isHeap(heap)) return;
            state[DXS + heap] = dx;
            state[DYS + heap] = dy;
        }

        int now() {
            return state[TICK];
        }

        void setNow(int tick) {
            state[TICK] = tick;
        }

        int x(int k) {
            return has(k) ? state[XS + k] : 0;
        }

        int y(int k) {
            return has(k) ? state[YS + k] : 0;
        }

        int heapOf(int k) {
            return has(k) ? state[OWNERS + k] : NONE;
        }

        int standX(int k, int tick) {
            return has(k) ? state[XS + k] + state[DXS + state[OWNERS + k]] * tick : 0;
        }

        int standY(int k, int tick) {
            return has(k) ? state[YS + k] + state[DYS + state[OWNERS + k]] * tick : 0;
        }

        /** The POINTS of a SET, as bits. */
        long bits(int set) {
            long found = 0;
            for (int k = 0; k < POINTS; k++) {
                int heap = state[OWNERS + k];
                if (isHeap(heap) && (set >> heap & 1) != 0) found |= 1L << k;
            }
            return found;
        }

        /** Notes how all is, ahead of a DEED that may still fail. */
        void mark() {
            System.arraycopy(state, 0, marked, 0, WIDTH);
        }

        void returnToMark() {
            System.arraycopy(marked, 0, state, 0, WIDTH);
        }

        /** The DEED since the mark was done: it can be taken back from now on. */
        void keep() {
            newest = (newest + 1) % DEEDS;
            if (newest < 0 || newest >= DEEDS) return;
            System.arraycopy(marked, 0, kept[newest], 0, WIDTH);
            deeds = Math.min(deeds + 1, DEEDS);
        }

        int takeBack() {
            if (deeds <= 0 || newest < 0 || newest >= DEEDS) return NONE;
            System.arraycopy(kept[newest], 0, state, 0, WIDTH);
            newest = (newest + DEEDS - 1) % DEEDS;
            deeds--;
            return deeds;
        }

        int deeds() {
            return deeds;
        }
    }

    /** The bytes that were fed, and the reading of THE TEXT from them. */
    private static final class Tape {
        private static final int ROOM = 400;
        private static final int DIGITS = 3;

        private final int[] bytes = new int[ROOM];
        private int length;
        private int at;
        private int fault = NONE;

        int length() {
            return length;
        }

        int faultPlace() {
            return fault;
        }

        boolean hasRoom(int more) {
            return length + more <= ROOM;
        }

        void take(int word) {
            for (int shift = 24; shift >= 0; shift -= 8) {
                if (!hasRoom(1)) return;
                bytes[length] = word >> shift & 255;
                length++;
            }
        }

        boolean cut(int n) {
            if (n < 0 || n > length) return false;
            length = n;
            return true;
        }

        /** Empties the tape into the heaps: how many ITEMS came. After a FAULT the heaps are as they were. */
        int read(Heaps heaps) {
            int items = 0;
            at = 0;
            fault = NONE;
            heaps.mark();
            for (int left = ROOM; left > 0 && at < length && fault == NONE; left--) {
                readItem(heaps);
                items++;
            }
            length = 0;
            if (fault != NONE) {
                heaps.returnToMark();
                return NONE;
            }
            heaps.keep();
            return items;
        }

        private void readItem(Heaps heaps) {
            if (next() == 'p') {
                at++;
                readPace(heaps);
            } else {
                readPoint(heaps);
            }
        }

        private void readPace(Heaps heaps) {
            int heap = readHeap();
            int dx = readNumber(FAST);
            expect(',');
            int dy = readNumber(FAST);
            expect(';');
            if (fault == NONE) heaps.setPace(heap, dx, dy);
        }

        private void readPoint(Heaps heaps) {
            int start = at;
            int k = heaps.free();
            int heap = readHeap();
            if (k == NONE) fail(start);
            int x = readNumber(FAR);
            expect(',');
            int y = readNumber(FAR);
            expect(';');
            if (fault == NONE) heaps.place(k, x, y, heap);
        }

        private int readHeap() {
            int heap = next() - 'a';
            if (!isHeap(heap)) fail(at);
            at++;
            return heap;
        }

        /** A fourth digit is the FAULT even where the three ahead of it are too many already. */
        private int readNumber(int far) {
            int start = at;
            boolean minus = next() == '-';
            int value = 0;
            int digits = 0;
            if (minus) at++;
            while (digits < DIGITS && nextIsDigit()) {
                value = 10 * value + next() - '0';
                at++;
                digits++;
            }
            if (digits == 0 || nextIsDigit()) fail(at);
            if (value > far) fail(start);
            return minus ? -value : value;
        }

        private void expect(int sign) {
            if (next() != sign) fail(at);
            at++;
        }

        private boolean nextIsDigit() {
            return next() >= '0' && next() <= '9';
        }

        private int next() {
            return at >= 0 && at < length ? bytes[at] : NONE;
        }

        /** The first FAULT stays; what is read behind it counts no more. */
        private void fail(int place) {
            if (fault == NONE) fault = place;
        }
    }

    /** Unlike places by x, then by y, each with the least number of the POINTS there. */
    private static final class Spots {
        /** One more than the POINTS: a place that is only thought of may come along. */
        private static final int ROOM = POINTS + 1;

        private final int[] xs = new int[ROOM];
        private final int[] ys = new int[ROOM];
        private final int[] numbers = new int[ROOM];
        private int count;

        int count() {
            return count;
        }

        int x(int i) {
            return i >= 0 && i < count ? xs[i] : 0;
        }

        int y(int i) {
            return i >= 0 && i < count ? ys[i] : 0;
        }

        int number(int i) {
            return i >= 0 && i < count ? numbers[i] : NONE;
        }

        void collect(Heaps heaps, long bits, int tick) {
            count = 0;
            for (int k = 0; k < POINTS; k++) {
                if ((bits >> k & 1) != 0) add(heaps.standX(k, tick), heaps.standY(k, tick), k);
            }
        }

        /** Numbers must come from the least on: the first one at a place stays. */
        void add(int x, int y, int number) {
            int at = count;
            while (at > 0 && (xs[at - 1] > x || xs[at - 1] == x && ys[at - 1] > y)) at--;
            if (count >= ROOM || at > 0 && xs[at - 1] == x && ys[at - 1] == y) return;
            for (int i = count; i > at; i--) move(i - 1, i);
            xs[at] = x;
            ys[at] = y;
            numbers[at] = number;
            count++;
        }

        void copy(Spots source) {
            count = 0;
            for (int i = 0; i < source.count && i < ROOM; i++) {
                xs[i] = source.xs[i];
                ys[i] = source.ys[i];
                numbers[i] = source.numbers[i];
                count++;
            }
        }

        void drop(int number) {
            int stay = 0;
            for (int i = 0; i < count; i++) {
                if (numbers[i] == number) continue;
                move(i, stay);
                stay++;
            }
            count = stay;
        }

        private void move(int from, int to) {
            if (from < 0 || from >= ROOM || to < 0 || to >= ROOM) return;
            xs[to] = xs[from];
            ys[to] = ys[from];
            numbers[to] = numbers[from];
        }

        int indexOf(int x, int y) {
            for (int i = 0; i < count; i++) {
                if (xs[i] == x && ys[i] == y) return i;
            }
            return NONE;
        }

        int distance(int i, int j) {
            int dx = x(j) - x(i);
            int dy = y(j) - y(i);
            return dx * dx + dy * dy;
        }

        /** The fewest SPOTS on a side of a line through a place: only lines just beside a SPOT need be looked at. */
        int depth(int x, int y) {
            int least = count;
            for (int i = 0; i < count; i++) {
                if (xs[i] != x || ys[i] != y) least = Math.min(least, depthBeside(x, y, xs[i] - x, ys[i] - y));
            }
            return least;
        }

        /** The line along dx, dy is turned a little either way: those on it ahead and behind go to unlike sides. */
        private int depthBeside(int x, int y, int dx, int dy) {
            int left = 0;
            int right = 0;
            int ahead = 0;
            int behind = 0;
            for (int i = 0; i < count; i++) {
                int turn = dx * (ys[i] - y) - dy * (xs[i] - x);
                int along = dx * (xs[i] - x) + dy * (ys[i] - y);
                if (turn > 0) left++;
                else if (turn < 0) right++;
                else if (along > 0) ahead++;
                else if (along < 0) behind++;
            }
            int onPlace = count - left - right - ahead - behind;
            return onPlace + Math.min(left, right) + Math.min(ahead, behind);
        }
    }

    /** A circle by a place on its rim and the way from there to its centre; the smallest one about SPOTS. */
    private static final class Circle {
        private static final int MOST_TIGHT = 3;

        private int baseX;
        private int baseY;
        /** The centre is the base and wayX / scale, wayY / scale more; scale is above 0. */
        private long scale = 1;
        private long wayX;
        private long wayY;
        private final int[] onRim = new int[Spots.ROOM];
        private int rimCount;
        private final int[] tight = new int[MOST_TIGHT];
        private int tightCount;

        /** SPOTS come one by one; one that is outside must lie on the rim of the next circle. */
        void about(Spots spots) {
            atOne(spots, 0);
            for (int i = 1; i < spots.count(); i++) {
                if (isOutside(spots, i)) aboutWithOne(spots, i);
            }
        }

        private void aboutWithOne(Spots spots, int i) {
            atOne(spots, i);
            for (int j = 0; j < i; j++) {
                if (isOutside(spots, j)) aboutWithTwo(spots, i, j);
            }
        }

        private void aboutWithTwo(Spots spots, int i, int j) {
            acrossTwo(spots, i, j);
            for (int k = 0; k < j; k++) {
                if (isOutside(spots, k)) throughThree(spots, i, j, k);
            }
        }

        private boolean isOutside(Spots spots, int i) {
            return side(spots.x(i), spots.y(i)) > 0;
        }

        void atOne(Spots spots, int i) {
            baseX = spots.x(i);
            baseY = spots.y(i);
            scale = 1;
            wayX = 0;
            wayY = 0;
        }

        void acrossTwo(Spots spots, int i, int j) {
            atOne(spots, i);
            scale = 2;
            wayX = spots.x(j) - baseX;
            wayY = spots.y(j) - baseY;
        }

        /** Three in one line have no circle: false, and nothing is done. */
        boolean throughThree(Spots spots, int i, int j, int k) {
            long jx = spots.x(j) - spots.x(i);
            long jy = spots.y(j) - spots.y(i);
            long kx = spots.x(k) - spots.x(i);
            long ky = spots.y(k) - spots.y(i);
            long turn = jx * ky - jy * kx;
            if (turn == 0) return false;
            long sign = turn < 0 ? -1 : 1;
            long jj = sign * (jx * jx + jy * jy);
            long kk = sign * (kx * kx + ky * ky);
            atOne(spots, i);
            scale = 2 * sign * turn;
            wayX = ky * jj - jy * kk;
            wayY = jx * kk - kx * jj;
            return true;
        }

        /** 1 outside, 0 on the rim, -1 inside. */
        int side(int x, int y) {
            long dx = x - baseX;
            long dy = y - baseY;
            return Long.compare(scale * (dx * dx + dy * dy), 2 * (dx * wayX + dy * wayY));
        }

        long sizeAbove() {
            return wayX * wayX + wayY * wayY;
        }

        long sizeBelow() {
            return scale * scale;
        }

        void size(Fraction told) {
            told.set(sizeAbove(), sizeBelow());
        }

        void middleX(Fraction told) {
            told.set(baseX * scale + wayX, scale);
        }

        void middleY(Fraction told) {
            told.set(baseY * scale + wayY, scale);
        }

        int sizeAgainst(Circle another) {
            return Fraction.compare(sizeAbove(), sizeBelow(), another.sizeAbove(), another.sizeBelow());
        }

        int countOnRim(Spots spots) {
            int found = 0;
            for (int i = 0; i < spots.count(); i++) {
                if (side(spots.x(i), spots.y(i)) == 0) found++;
            }
            return found;
        }

        int tightCount() {
            return tightCount;
        }

        int tightNumber(int i) {
            return i >= 0 && i < tightCount && i < MOST_TIGHT ? tight[i] : NONE;
        }

        /** Those on the rim by their numbers, so that the first ones found are the least. */
        void seekTight(Spots spots) {
            rimCount = 0;
            for (int i = 0; i < spots.count(); i++) {
                if (side(spots.x(i), spots.y(i)) == 0) putOnRim(spots, i);
            }
            tightCount = 0;
            if (rimCount == 1) setTight(spots, 1, 0, 0, 0);
            else if (!seekTwo(spots)) seekThree(spots);
        }

        private void putOnRim(Spots spots, int spot) {
            int at = rimCount;
            if (at >= onRim.length) return;
            while (at > 0 && spots.number(onRim[at - 1]) > spots.number(spot)) {
                onRim[at] = onRim[at - 1];
                at--;
            }
            onRim[at] = spot;
            rimCount++;
        }

        private int rimSpot(int a) {
            return a >= 0 && a < rimCount ? onRim[a] : NONE;
        }

        private void setTight(Spots spots, int count, int a, int b, int c) {
            tight[0] = spots.number(rimSpot(a));
            tight[1] = spots.number(rimSpot(b));
            tight[2] = spots.number(rimSpot(c));
            tightCount = count;
        }

        private boolean seekTwo(Spots spots) {
            for (int a = 0; a < rimCount; a++) {
                for (int b = a + 1; b < rimCount; b++) {
                    if (areOpposite(spots, rimSpot(a), rimSpot(b))) {
                        setTight(spots, 2, a, b, 0);
                        return true;
                    }
                }
            }
            return false;
        }

        private boolean areOpposite(Spots spots, int i, int j) {
            long x = spots.x(i) + spots.x(j) - 2 * baseX;
            long y = spots.y(i) + spots.y(j) - 2 * baseY;
            return x * scale == 2 * wayX && y * scale == 2 * wayY;
        }

        private void seekThree(Spots spots) {
            for (int a = 0; a < rimCount; a++) {
                for (int b = a + 1; b < rimCount; b++) {
                    for (int c = b + 1; c < rimCount; c++) {
                        if (areSharp(spots, rimSpot(a), rimSpot(b), rimSpot(c))) {
                            setTight(spots, 3, a, b, c);
                            return;
                        }
                    }
                }
            }
        }

        /** Three force the circle through them just if no corner among them is right or blunt. */
        private static boolean areSharp(Spots spots, int i, int j, int k) {
            int ij = spots.distance(i, j);
            int jk = spots.distance(j, k);
            int ki = spots.distance(k, i);
            return ij + jk > ki && jk + ki > ij && ki + ij > jk;
        }
    }

    /** The HULL of SPOTS, and what is measured along its sides; side i begins at corner i. */
    private static final class Hull {
        /** Two chains are laid, each of all SPOTS at most. */
        private static final int ROOM = 2 * Spots.ROOM;

        private final int[] xs = new int[ROOM];
        private final int[] ys = new int[ROOM];
        private final int[] numbers = new int[ROOM];
        private int count;

        int count() {
            return count;
        }

        int x(int i) {
            return i >= 0 && i < count ? xs[i] : 0;
        }

        int y(int i) {
            return i >= 0 && i < count ? ys[i] : 0;
        }

        int number(int i) {
            return i >= 0 && i < count ? numbers[i] : NONE;
        }

        private int after(int i) {
            return i + 1 < count ? i + 1 : 0;
        }

        private int before(int i) {
            return i > 0 ? i - 1 : count - 1;
        }

        private long sideX(int i) {
            return x(after(i)) - x(i);
        }

        private long sideY(int i) {
            return y(after(i)) - y(i);
        }

        private long sideSquared(int i) {
            return sideX(i) * sideX(i) + sideY(i) * sideY(i);
        }

        /** Lays the lower chain from the first SPOT to the last, then the upper one back. */
        void about(Spots spots) {
            count = 0;
            for (int i = 0; i < spots.count(); i++) lay(spots, i, 0);
            int lower = count - 1;
            for (int i = spots.count() - 2; i >= 0; i--) lay(spots, i, lower);
            if (count > 1) count--;
        }

        /** Corners behind the fixed one that do not turn left to the new one go. */
        private void lay(Spots spots, int i, int fixed) {
            while (count > fixed + 1 && count > 1 && turn(count - 2, spots.x(i), spots.y(i)) <= 0) count--;
            if (count < 0 || count >= ROOM) return;
            xs[count] = spots.x(i);
            ys[count] = spots.y(i);
            numbers[count] = spots.number(i);
            count++;
        }

        /** Above 0 if a place lies to the left of side i, below 0 to the right. */
        private long turn(int i, int x, int y) {
            return sideX(i) * (y - y(i)) - sideY(i) * (x - x(i));
        }

        long twiceArea() {
            long sum = 0;
            for (int i = 0; i < count; i++) sum += turn(i, x(0), y(0));
            return sum;
        }

        /** How far the HULL goes from side i, times that side's length. */
        private long height(int i) {
            long most = 0;
            for (int j = 0; j < count; j++) most = Math.max(most, turn(i, xs[j], ys[j]));
            return most;
        }

        int narrowest(Fraction wide) {
            int ahead = 0;
            for (int i = 0; i < count; i++) {
                long above = height(i) * height(i);
                if (i == 0 || wide.against(above, sideSquared(i)) > 0) {
                    wide.set(above, sideSquared(i));
                    ahead = i;
                }
            }
            return number(ahead);
        }

        int leastBox(Fraction room) {
            int ahead = 0;
            for (int i = 0; i < count; i++) {
                long above = height(i) * (most(sideX(i), sideY(i)) - least(sideX(i), sideY(i)));
                if (i == 0 || room.against(above, sideSquared(i)) > 0) {
                    room.set(above, sideSquared(i));
                    ahead = i;
                }
            }
            return number(ahead);
        }

        int farthest(long x, long y) {
            long most = most(x, y);
            for (int i = 0; i < count; i++) {
                if (x * xs[i] + y * ys[i] == most) return i;
            }
            return NONE;
        }

        long most(long x, long y) {
            long most = x * xs[0] + y * ys[0];
            for (int i = 1; i < count; i++) most = Math.max(most, x * xs[i] + y * ys[i]);
            return most;
        }

        long least(long x, long y) {
            long least = x * xs[0] + y * ys[0];
            for (int i = 1; i < count; i++) least = Math.min(least, x * xs[i] + y * ys[i]);
            return least;
        }

        /** Two that do not touch lie apart along a side, square to one, or (two SPOTS) along x or y. */
        boolean touches(Hull another) {
            return !isApart(another, 1, 0) && !isApart(another, 0, 1)
                && !isApartBySides(another) && !another.isApartBySides(this);
        }

        private boolean isApartBySides(Hull another) {
            for (int i = 0; i < count; i++) {
                if (isApart(another, sideX(i), sideY(i)) || isApart(another, -sideY(i), sideX(i))) return true;
            }
            return false;
        }

        private boolean isApart(Hull another, long x, long y) {
            return most(x, y) < another.least(x, y) || another.most(x, y) < least(x, y);
        }

        long wholeOnRim() {
            if (count == 1) return 1;
            if (count == 2) return Fraction.gcd(sideX(0), sideY(0)) + 1;
            long sum = 0;
            for (int i = 0; i < count; i++) sum += Fraction.gcd(sideX(i), sideY(i));
            return sum;
        }

        /** Pick's rule: twice the area is twice those within, those on the rim, less 2. */
        long wholeWithin() {
            return count < 3 ? 0 : (twiceArea() - wholeOnRim() + 2) / 2;
        }

        int sidesSeen(int x, int y) {
            int found = 0;
            for (int i = 0; i < count; i++) {
                if (turn(i, x, y) < 0) found++;
            }
            return found;
        }

        int seenFrom(int x, int y) {
            for (int i = 0; i < count; i++) {
                if (turn(i, x, y) < 0 && turn(before(i), x, y) >= 0) return number(i);
            }
            return NONE;
        }

        int seenTo(int x, int y) {
            for (int i = 0; i < count; i++) {
                if (turn(i, x, y) >= 0 && turn(before(i), x, y) < 0) return number(i);
            }
            return NONE;
        }
    }

    /** The LAYERS of SPOTS. */
    private static final class Layers {
        private final Spots left = new Spots();
        private final Hull outermost = new Hull();
        private final int[] layers = new int[POINTS];

        int peel(Spots spots) {
            int rounds = 0;
            left.copy(spots);
            while (rounds < POINTS && left.count() > 0) {
                outermost.about(left);
                for (int i = 0; i < outermost.count(); i++) takeAway(outermost.number(i), rounds);
                rounds++;
            }
            return rounds;
        }

        private void takeAway(int number, int round) {
            if (number >= 0 && number < POINTS) layers[number] = round;
            left.drop(number);
        }

        int layerOf(int number) {
            return number >= 0 && number < POINTS ? layers[number] : NONE;
        }
    }

    /** The COUPLES of SPOTS, each packed in a number that is ordered as they are: distance, first, second. */
    private static final class Couples {
        private static final int ROOM = POINTS * (POINTS - 1) / 2;
        private static final int PLACE_BITS = 6;
        private static final int PLACE_MASK = 63;

        private final int[] packed = new int[ROOM];
        private int count;

        int count() {
            return count;
        }

        int distance(int k) {
            return packedAt(k) >> 2 * PLACE_BITS;
        }

        int first(int k) {
            return packedAt(k) >> PLACE_BITS & PLACE_MASK;
        }

        int second(int k) {
            return packedAt(k) & PLACE_MASK;
        }

        private int packedAt(int k) {
            return k >= 0 && k < count ? packed[k] : 0;
        }

        void order(Spots spots) {
            count = 0;
            for (int i = 0; i < spots.count(); i++) {
                for (int j = i + 1; j < spots.count(); j++) pack(spots.distance(i, j), i, j);
            }
            for (int gap = count / 2; gap > 0; gap /= 2) {
                for (int k = gap; k < count; k++) sink(k, gap);
            }
        }

        private void pack(int distance, int i, int j) {
            if (count >= ROOM) return;
            packed[count] = (distance << PLACE_BITS | i) << PLACE_BITS | j;
            count++;
        }

        private void sink(int from, int gap) {
            if (gap < 1 || from < gap || from >= count) return;
            int value = packedAt(from);
            int at = from;
            while (at >= gap && packedAt(at - gap) > value) {
                packed[at] = packed[at - gap];
                at -= gap;
            }
            packed[at] = value;
        }
    }

    /** The RING about SPOTS: its centre is where the middle lines of two COUPLES cross. */
    private static final class Ring {
        /** The centre is x / scale, y / scale; the distances squared are told over scale squared. */
        private long scale;
        private long x;
        private long y;
        private long inner;
        private long outer;
        private long triedScale;
        private long triedX;
        private long triedY;
        private long triedInner;
        private long triedOuter;

        void about(Spots spots, Couples couples) {
            scale = 0;
            for (int a = 0; a < couples.count(); a++) {
                for (int b = 0; b < a; b++) {
                    if (!cross(spots, couples, a, b)) continue;
                    measure(spots);
                    if (scale == 0 || isBetter()) keepTried();
                }
            }
        }

        /** Where the middle lines cross: dx * X + dy * Y is half of what the squares differ by, for both. */
        private boolean cross(Spots spots, Couples couples, int a, int b) {
            int p = couples.first(a);
            int q = couples.second(a);
            int r = couples.first(b);
            int s = couples.second(b);
            long dx = spots.x(q) - spots.x(p);
            long dy = spots.y(q) - spots.y(p);
            long ex = spots.x(s) - spots.x(r);
            long ey = spots.y(s) - spots.y(r);
            long turn = dx * ey - dy * ex;
            if (turn == 0) return false;
            long sign = turn < 0 ? -1 : 1;
            long d = sign * (square(spots, q) - square(spots, p));
            long e = sign * (square(spots, s) - square(spots, r));
            triedScale = 2 * sign * turn;
            triedX = d * ey - e * dy;
            triedY = dx * e - ex * d;
            return true;
        }

        private static long square(Spots spots, int i) {
            return spots.x(i) * spots.x(i) + spots.y(i) * spots.y(i);
        }

        private void measure(Spots spots) {
            for (int i = 0; i < spots.count(); i++) {
                long dx = spots.x(i) * triedScale - triedX;
                long dy = spots.y(i) * triedScale - triedY;
                long far = dx * dx + dy * dy;
                triedInner = i == 0 ? far : Math.min(triedInner, far);
                triedOuter = i == 0 ? far : Math.max(triedOuter, far);
            }
        }

        private boolean isBetter() {
            int order = Fraction.compare(triedOuter - triedInner, triedScale * triedScale, outer - inner, scale * scale);
            if (order == 0) order = Fraction.compare(triedX, triedScale, x, scale);
            if (order == 0) order = Fraction.compare(triedY, triedScale, y, scale);
            return order < 0;
        }

        private void keepTried() {
            scale = triedScale;
            x = triedX;
            y = triedY;
            inner = triedInner;
            outer = triedOuter;
        }

        /** 0 GAP, 1 INNER, 2 OUTER, 3 the centre's x, 4 its y. */
        void tell(int what, Fraction told) {
            if (what == 0) told.set(outer - inner, scale * scale);
            else if (what == 1) told.set(inner, scale * scale);
            else if (what == 2) told.set(outer, scale * scale);
            else told.set(what == 3 ? x : y, scale);
        }
    }

    /** All circles that one, two or three of a few SPOTS force, by their size; each with the SPOTS in it as bits. */
    private static final class Discs {
        private static final int ROOM = FEW + FEW * (FEW - 1) / 2 + FEW * (FEW - 1) * (FEW - 2) / 6;

        private final Circle disc = new Circle();
        private final long[] above = new long[ROOM];
        private final long[] below = new long[ROOM];
        private final int[] within = new int[ROOM];
        private final int[] bySize = new int[ROOM];
        private int count;
        private int all;

        void about(Spots spots) {
            count = 0;
            all = (1 << Math.min(spots.count(), FEW)) - 1;
            for (int i = 0; i < spots.count(); i++) {
                disc.atOne(spots, i);
                add(spots);
                for (int j = 0; j < i; j++) {
                    disc.acrossTwo(spots, i, j);
                    add(spots);
                    for (int k = 0; k < j; k++) {
                        if (disc.throughThree(spots, i, j, k)) add(spots);
                    }
                }
            }
            for (int gap = count / 2; gap > 0; gap /= 2) {
                for (int at = gap; at < count; at++) sink(at, gap);
            }
        }

        private void add(Spots spots) {
            if (count >= ROOM) return;
            int bits = 0;
            for (int i = 0; i < spots.count(); i++) {
                if (disc.side(spots.x(i), spots.y(i)) <= 0) bits |= 1 << i;
            }
            above[count] = disc.sizeAbove();
            below[count] = disc.sizeBelow();
            within[count] = bits;
            bySize[count] = count;
            count++;
        }

        private void sink(int from, int gap) {
            if (gap < 1 || from < gap || from >= count) return;
            int moved = discAt(from);
            int at = from;
            while (at >= gap && sizeOrder(discAt(at - gap), moved) > 0) {
                bySize[at] = bySize[at - gap];
                at -= gap;
            }
            bySize[at] = moved;
        }

        private int discAt(int place) {
            return place >= 0 && place < count ? bySize[place] : 0;
        }

        private int sizeOrder(int a, int b) {
            if (a < 0 || a >= ROOM || b < 0 || b >= ROOM) return 0;
            return Fraction.compare(above[a], below[a], above[b], below[b]);
        }

        private int bitsOf(int a) {
            return a >= 0 && a < count ? within[a] : 0;
        }

        private void tellSize(int a, Fraction size) {
            if (a >= 0 && a < count) size.set(above[a], below[a]);
        }

        /** FEWER: the SPOTS in the smallest circle that has so many. */
        int holding(int least, Fraction size) {
            int found = NONE;
            for (int place = 0; place < count; place++) {
                int a = discAt(place);
                if (Integer.bitCount(bitsOf(a)) < least) continue;
                if (found != NONE && sizeOrder(a, found) > 0) break;
                if (found == NONE || isFuller(bitsOf(a), bitsOf(found))) found = a;
            }
            tellSize(found, size);
            return bitsOf(found);
        }

        private static boolean isFuller(int bits, int than) {
            int more = Integer.bitCount(bits) - Integer.bitCount(than);
            return more > 0 || more == 0 && bits < than;
        }

        /** TWO: the part with the first SPOT. The first circle with which a smaller one covers all is the greater. */
        int parting(Fraction size) {
            int greater = NONE;
            int part = 0;
            for (int place = 0; place < count; place++) {
                int a = discAt(place);
                if (greater != NONE && sizeOrder(a, greater) > 0) break;
                int own = bitsOf(a);
                for (int lower = 0; lower < place; lower++) {
                    int another = bitsOf(discAt(lower));
                    if ((own | another) != all) continue;
                    part = lesser(part, partBetween(own, another));
                    part = lesser(part, partBetween(another, own));
                }
                if (part != 0 && greater == NONE) greater = a;
            }
            tellSize(greater, size);
            return part;
        }

        /** The fewest SPOTS of own, the first one among them, that leave some, all in another; 0: there are none such. */
        private int partBetween(int own, int another) {
            int part = all & ~another | 1;
            return (part & ~own) == 0 && part != all ? part : 0;
        }

        private static int lesser(int part, int another) {
            if (part == 0 || another == 0) return part | another;
            return Math.min(part, another);
        }
    }

    /** The bytes that were written latest. */
    private static final class Written {
        /** A corner takes ten at most: -160,-160; */
        private static final int ROOM = 10 * POINTS;

        private final int[] bytes = new int[ROOM];
        private int length;

        int length() {
            return length;
        }

        int at(int k) {
            return k >= 0 && k < length ? bytes[k] : NONE;
        }

        void clear() {
            length = 0;
        }

        void addByte(int sign) {
            if (length >= ROOM) return;
            bytes[length] = sign;
            length++;
        }

        void addNumber(int value) {
            int size = Math.abs(value);
            if (value < 0) addByte('-');
            if (size >= 100) addByte('0' + size / 100 % 10);
            if (size >= 10) addByte('0' + size / 10 % 10);
            addByte('0' + size % 10);
        }
    }
}
