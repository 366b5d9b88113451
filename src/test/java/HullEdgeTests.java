/** Terms III up to FEWER, promises 23 to 32: each sentence that names a bound, at the last value taken and the first refused. */
public final class HullEdgeTests {
    private static final int NONE = Edge.NONE;
    private static final int OTHER = Edge.OTHER;
    private static final int LOW = Edge.LOW;
    private static final int HIGH = Edge.HIGH;
    private static final String[] IN_A_LINE = {"a5,5;", "a5,5;a5,5;", "a5,5;a6,7;", "a0,0;a1,0;a2,0;", "a0,0;a0,1;a0,9;",
        "a0,0;a1,1;a5,5;", "a0,9;a3,6;a9,0;", "a0,0;a2,1;a4,2;a6,3;a4,2;"};

    public static void main(String[] args) throws Exception {
        hullsCorners();
        hullsOrder();
        hullsLines();
        areaWithin();
        layersTakenAway();
        layersTillNoneIsLeft();
        stripBetweenLines();
        stripsSide();
        couplesInOrder();
        ringOfTwelve();
        ringOfSeveral();
        ringsDistances();
        twoToTwelve();
        twoNoneEmpty();
        twoLeastBits();
        boxNotInALine();
        boxOfLikeOnes();
        meetInOnePlace();
        fewerOfTwelve();
        fewerCircles();
        fewerOfLikeOnes();
        hull();
        hullForOthers();
        area();
        areaForOthers();
        layer();
        layerForOthers();
        strip();
        stripForOthers();
        couple();
        coupleForOthers();
        ring();
        ringForOthers();
        two();
        twoForOthers();
        box();
        boxForOthers();
        meets();
        meetsForOthers();
        fewer();
        fewerForOthers();
        Edge.end("III", "23", "24", "25", "26", "27", "28", "29", "30", "31", "32");
    }

    private static void due(TightRings x, long want, String call, long... args) {
        Edge.due(x, want, call, args);
    }

    private static void dueHull(TightRings x, int set, long... corners) {
        due(x, corners.length, "hull", set, NONE);
        Edge.dueEach(x, corners, "hull", set);
        due(x, NONE, "hull", set, corners.length);
    }

    /** n unlike SPOTS of HEAP 0, not in one line from three on. */
    private static TightRings bent(int n) {
        TightRings x = new TightRings();
        for (int k = 0; k < n; k++) due(x, k, "put", k, k == 1 ? 1 : 0, 0);
        return x;
    }

    // ---- Terms III

    private static void hullsCorners() {
        Edge.says("III", "HULL: SPOTS that are corners of the least round about all that bends in nowhere,");
        dueHull(Edge.of("a0,0;a6,0;a6,6;a0,6;a3,3;a1,5;"), 1, 0, 1, 2, 3);
        // what lies in a side, or a step within it, is no corner; a step without it is one
        for (String place : new String[] {"3,0", "3,1", "6,3", "5,3", "3,6", "3,5", "0,3", "1,3"}) {
            dueHull(Edge.of("a0,0;a6,0;a6,6;a0,6;a" + place + ";"), 1, 0, 1, 2, 3);
        }
        dueHull(Edge.of("a0,0;a6,0;a6,6;a0,6;a3,-1;"), 1, 0, 4, 1, 2, 3);
        dueHull(Edge.of("a0,0;a6,0;a6,6;a0,6;a7,3;"), 1, 0, 1, 4, 2, 3);
        dueHull(Edge.of("a0,0;a6,0;a6,6;a0,6;a3,7;"), 1, 0, 1, 2, 4, 3);
        dueHull(Edge.of("a0,0;a6,0;a6,6;a0,6;a-1,3;"), 1, 4, 0, 1, 2, 3);
        dueHull(Edge.of("a0,0;a1,0;a0,1;"), 1, 0, 1, 2);
        long[] all = new long[40];
        for (int corner = 0; corner < 40; corner++) all[corner] = 23 * corner % 40;
        dueHull(Forty.corners(), 1, all);
    }

    private static void hullsOrder() {
        Edge.says("III", "from the first SPOT on, turning left (from x to y);");
        dueHull(Edge.of("a0,6;a6,6;a6,0;a0,0;"), 1, 3, 2, 1, 0);
        dueHull(Edge.of("a3,0;a0,3;a3,6;a6,3;"), 1, 1, 0, 3, 2);
        dueHull(Edge.of("a0,9;a0,-9;a5,0;"), 1, 1, 2, 0);
        TightRings x = Edge.of("b0,0;a0,0;a4,0;a2,-3;");
        dueHull(x, 3, 0, 3, 2);
        dueHull(x, 1, 1, 3, 2);
    }

    private static void hullsLines() {
        Edge.says("III", "of SPOTS in one line the first and the last one.");
        dueHull(Edge.of("a5,5;a5,5;"), 1, 0);
        dueHull(Edge.of("a6,7;a5,5;"), 1, 1, 0);
        dueHull(Edge.of("a2,0;a1,0;a0,0;a3,0;"), 1, 2, 3);
        dueHull(Edge.of("a2,9;a2,-9;a2,0;"), 1, 1, 0);
        dueHull(Edge.of("a5,5;a1,1;a3,3;"), 1, 1, 0);
        dueHull(Edge.of("a3,6;a0,9;a9,0;"), 1, 1, 2);
        dueHull(Edge.row(40), 1, 0, 39);
    }

    private static void areaWithin() {
        Edge.says("III", "AREA: twice what is within.");
        due(Edge.of("a5,5;"), 0, "area", 1);
        due(Edge.of("a5,5;a9,9;"), 0, "area", 1);
        due(Edge.row(40), 0, "area", 1);
        due(Edge.of("a0,0;a1,0;a0,1;"), 1, "area", 1);
        due(Edge.of("a0,0;a6,0;a6,6;a0,6;a3,3;a3,0;"), 72, "area", 1);
        due(Edge.of("a-100,-100;a100,-100;a100,100;a-100,100;"), 80000, "area", 1);
        TightRings x = Edge.of("a-100,-100;b100,100;c100,-100;d-100,100;pa-3,-3;pb3,3;pc3,-3;pd-3,3;");
        due(x, 0, "tick", 20);
        due(x, 204800, "area", 15);
    }

    private static void layersTakenAway() {
        Edge.says("III", "LAYERS: the HULL's SPOTS are taken away, then those of the HULL of what is left, ..:");
        // (3, 0) lies in a side: it goes with the next ones only
        TightRings x = Edge.of("a0,0;a6,0;a6,6;a0,6;a3,0;a3,3;a2,2;a4,2;a3,1;");
        long[] want = {0, 0, 0, 0, 1, 1, 1, 1, 2};
        for (int k = 0; k < 9; k++) due(x, want[k], "layer", 1, k);
        due(x, 3, "layer", 1, NONE);
        // POINT 0 within, then without
        TightRings first = Edge.of("a3,3;a0,0;a6,0;a6,6;a0,6;");
        due(first, 1, "layer", 1, 0);
        due(first, 1, "moved", 0, 7, 3);
        due(first, 0, "layer", 1, 0);
        due(first, 1, "back");
        due(first, 1, "layer", 1, 0);
    }

    private static void layersTillNoneIsLeft() {
        Edge.says("III", "how many times, till none is left; the LAYER of a POINT's SPOT (0 on).");
        due(Edge.of("a5,5;"), 1, "layer", 1, NONE);
        due(Edge.of("a5,5;"), 0, "layer", 1, 0);
        due(Edge.of("a5,5;a6,6;"), 1, "layer", 1, NONE);
        due(Edge.of("a5,5;a6,6;a7,7;"), 2, "layer", 1, NONE);
        TightRings row = Edge.row(40);
        due(row, 20, "layer", 1, NONE);
        for (int k = 0; k < 40; k++) due(row, Math.min(k, 39 - k), "layer", 1, k);
        due(Edge.row(39), 20, "layer", 1, NONE);
        due(Edge.row(39), 19, "layer", 1, 19);
        due(Forty.corners(), 1, "layer", 1, NONE);
        // the SPOT's LAYER, for each POINT at it
        TightRings shared = Edge.of("a0,0;a6,0;a3,0;b3,0;b3,0;");
        due(shared, 1, "layer", 3, 2);
        due(shared, 1, "layer", 3, 3);
        due(shared, 1, "layer", 3, 4);
        due(shared, 0, "layer", 2, 4);
    }

    private static void stripBetweenLines() {
        Edge.says("III", "STRIP (SPOTS not in one line): the narrowest between two lines side by side between which (on them, too) all lie; WIDE: its width squared.");
        for (String text : IN_A_LINE) due(Edge.of(text), NONE, "strip", 1, 0);
        Edge.dueEach(Edge.of("a0,0;a1,0;a0,1;"), Edge.answers(1, 2, 1), "strip", 1);
        Edge.dueEach(Edge.of("a0,0;a4,0;a0,3;"), Edge.answers(144, 25, 1), "strip", 1);
        // (4, 3) lies on the far line, a step beyond it the strip is wider
        Edge.dueEach(Edge.of("a0,0;a9,0;a9,3;a0,3;a4,3;"), Edge.answers(9, 1, 0), "strip", 1);
        Edge.dueEach(Edge.of("a0,0;a9,0;a9,3;a0,3;a4,4;"), Edge.answers(16, 1, 0), "strip", 1);
        TightRings x = Edge.of("a-100,-100;b100,100;c100,-100;d-100,100;pa-3,-3;pb3,3;pc3,-3;pd-3,3;");
        due(x, 0, "tick", 20);
        Edge.dueEach(x, Edge.answers(102400, 1, 0), "strip", 15);
    }

    private static void stripsSide() {
        Edge.says("III", "One of these lines goes along a side of the HULL: the corner ahead of that side, of like ones the first of the HULL.");
        due(Edge.of("a0,0;a8,0;a8,2;a0,2;"), 0, "strip", 1, 2);
        due(Edge.of("a0,8;a2,8;a2,0;a0,0;"), 2, "strip", 1, 2);
        due(Edge.of("a0,0;a6,0;a6,6;a0,6;"), 0, "strip", 1, 2);
        // the last side, from the last corner to the first
        Edge.dueEach(Edge.of("a0,0;a9,8;a8,9;"), Edge.answers(289, 145, 0), "strip", 1);
        Edge.dueEach(Edge.of("a0,0;a2,1;a9,9;"), Edge.answers(1, 2, 2), "strip", 1);
    }

    private static void couplesInOrder() {
        Edge.says("III", "COUPLES of two unlike SPOTS: by their distance squared, then by the first SPOT's place (of the two the one ahead), then by the second one's.");
        // SPOTS (0,0) (0,3) (4,0) (4,3) are POINTS 3, 1, 2, 0
        TightRings x = Edge.of("a4,3;a0,3;a4,0;a0,0;a0,0;");
        long[][] want = {{9, 3, 1}, {9, 2, 0}, {16, 3, 2}, {16, 1, 0}, {25, 3, 0}, {25, 1, 2}};
        for (int k = 0; k < 6; k++) Edge.dueEach(x, want[k], "couple", 1, k);
        due(x, NONE, "couple", 1, 6, 0);
        // from (0,0): to (3,4), (4,3), (5,0) it is 25 each
        TightRings fan = Edge.of("a5,0;a4,3;a3,4;a0,0;");
        for (int k = 3; k < 6; k++) Edge.dueEach(fan, Edge.answers(25, 3, 5 - k), "couple", 1, k);
        due(Edge.of("a5,5;a5,5;"), NONE, "couple", 1, 0, 0);
        due(Edge.of("a5,5;a5,6;"), 1, "couple", 1, 0, 0);
        due(Edge.of("a5,5;a5,6;"), NONE, "couple", 1, 1, 0);
        for (int n = 2; n < 41; n++) dueCouples(n);
        TightRings row = Edge.row(40);
        Edge.dueEach(row, Edge.answers(1, 0, 1), "couple", 1, 0);
        Edge.dueEach(row, Edge.answers(1, 38, 39), "couple", 1, 38);
        Edge.dueEach(row, Edge.answers(4, 0, 2), "couple", 1, 39);
        Edge.dueEach(row, Edge.answers(1444, 0, 38), "couple", 1, 777);
        Edge.dueEach(row, Edge.answers(1444, 1, 39), "couple", 1, 778);
        Edge.dueEach(row, Edge.answers(1521, 0, 39), "couple", 1, 779);
        TightRings far = Edge.of("a-100,-100;b100,100;pa-3,-3;pb3,3;");
        due(far, 0, "tick", 20);
        due(far, 204800, "couple", 3, 0, 0);
    }

    /** n SPOTS in some disorder, their numbers as their places: each COUPLE but the last comes ahead of the next one. */
    private static void dueCouples(int n) {
        int[] ys = new int[n];
        TightRings x = new TightRings();
        for (int k = 0; k < n; k++) {
            ys[k] = k * k * 7 % 31;
            due(x, k, "put", k, ys[k], 0);
        }
        int couples = n * (n - 1) / 2;
        long ahead = 0;
        for (int k = Math.max(0, couples - 150); k < couples; k++) {
            long distance = Edge.ask(x, "couple", 1, k, 0);
            int first = (int) Edge.ask(x, "couple", 1, k, 1);
            int second = (int) Edge.ask(x, "couple", 1, k, 2);
            long place = (distance * 64 + first) * 64 + second;
            int dy = ys[second] - ys[first];
            Edge.same("COUPLE " + k + " of " + n, Edge.answers(distance, place > ahead ? 1 : 0, first < second ? 1 : 0),
                Edge.answers((second - first) * (second - first) + dy * dy, 1, 1));
            ahead = place;
        }
        due(x, NONE, "couple", 1, couples, 0);
    }

    private static void ringOfTwelve() {
        Edge.says("III", "RING (SPOTS not in one line, 12 at most):");
        for (String text : IN_A_LINE) due(Edge.of(text), OTHER, "ring", 1, 1);
        for (int n = 3; n < 13; n++) Edge.dueOther(bent(n), OTHER, "ring", 1, 1);
        for (int n = 13; n < 16; n++) due(bent(n), OTHER, "ring", 1, 1);
        due(bent(40), OTHER, "ring", 1, 1);
        // POINTS may be more, at 12 SPOTS
        TightRings x = bent(12);
        due(x, 12, "put", 0, 0, 0);
        Edge.dueOther(x, OTHER, "ring", 1, 1);
        due(x, 1, "moved", 12, 50, 50);
        due(x, OTHER, "ring", 1, 1);
    }

    private static void ringOfSeveral() {
        Edge.says("III", "of all places the one, as CENTRE, from which the greatest distance squared to a SPOT less the least one is least: GAP; of several that with the least x, then y, of places each as far from one as from the other SPOT of two COUPLES at least (whose lines are not side by side).");
        Edge.dueEach(Edge.of("a0,0;a4,0;a0,3;"), Edge.answers(0, 1, 25, 4, 25, 4, 2, 1, 3, 2), "ring", 1);
        Edge.dueEach(Edge.of("a0,0;a2,0;a2,2;a0,2;a1,1;"), Edge.answers(2, 1, 0, 1, 2, 1, 1, 1, 1, 1), "ring", 1);
        for (String text : new String[] {"a0,0;a1,0;a0,1;", "a1,1;a1,0;a0,1;", "a0,0;a1,1;a0,1;", "a0,0;a1,0;a1,1;"}) {
            Edge.dueEach(Edge.of(text), Edge.answers(0, 1, 1, 2, 1, 2, 1, 2, 1, 2), "ring", 1);
        }
        // from (31/6, 2) two are at 193/36, two at 169/36
        Edge.dueEach(Edge.of("a4,4;a4,0;a3,2;a6,4;"), Edge.answers(2, 3, 169, 36, 193, 36, 31, 6, 2, 1), "ring", 1);
        Edge.dueEach(Edge.of("a-4,4;a-4,0;a-3,2;a-6,4;"), Edge.answers(2, 3, 169, 36, 193, 36, -31, 6, 2, 1), "ring", 1);
        // one of the COUPLES is the nearest one; five, of which four lie in one line
        Edge.dueEach(Edge.of("a3,0;a1,2;a2,0;a2,1;"), Edge.answers(2, 1, 1, 2, 5, 2, 3, 2, 1, 2), "ring", 1);
        Edge.dueEach(Edge.of("a3,3;a2,1;a1,1;a0,0;a2,2;"), Edge.answers(4, 1, 17, 2, 25, 2, -1, 2, 7, 2), "ring", 1);
        // all places from (1/2, 1) to (1, 1) have GAP 1, their ends alone are as far from the SPOTS of two COUPLES
        Edge.dueEach(Edge.of("a0,0;a1,2;a0,2;a0,1;"), Edge.answers(1, 1, 1, 4, 5, 4, 1, 2, 1, 1), "ring", 1);
        Edge.dueEach(Edge.of("a0,0;a-1,2;a0,2;a0,1;"), Edge.answers(1, 1, 1, 1, 2, 1, -1, 1, 1, 1), "ring", 1);
        // the same with x and y in each other's place: of like x the least y
        Edge.dueEach(Edge.of("a0,0;a2,1;a2,0;a1,0;"), Edge.answers(1, 1, 1, 4, 5, 4, 1, 1, 1, 2), "ring", 1);
        Edge.dueEach(Edge.of("a0,0;a2,-1;a2,0;a1,0;"), Edge.answers(1, 1, 1, 1, 2, 1, 1, 1, -1, 1), "ring", 1);
    }

    private static void ringsDistances() {
        Edge.says("III", "INNER, OUTER: those distances squared.");
        Edge.dueEach(Edge.of("a0,0;a2,0;a0,2;a3,3;"), Edge.answers(2, 1, 5, 2, 9, 2, 3, 2, 3, 2), "ring", 1);
        TightRings x = Edge.of("a-100,-100;b100,100;c100,-100;d-100,100;pa-3,-3;pb3,3;pc3,-3;pd-3,3;");
        due(x, 0, "tick", 20);
        Edge.dueEach(x, Edge.answers(0, 1, 51200, 1, 51200, 1, 0, 1, 0, 1), "ring", 15);
        // from (0, 0) the four are at 51200, a fifth one there at 0
        due(x, 1, "pace", 0, -3, -3);
        due(x, 4, "put", 60, 60, 0);
        Edge.dueEach(x, Edge.answers(51200, 1, 0, 1, 51200, 1, 0, 1, 0, 1), "ring", 15);
    }

    private static void twoToTwelve() {
        Edge.says("III", "TWO (2 to 12 SPOTS):");
        due(Edge.of("a5,5;a5,5;"), NONE, "two", 1, 0);
        Edge.dueEach(Edge.of("a5,5;a9,9;"), Edge.answers(0, 1, 1), "two", 1);
        for (int n = 3; n < 13; n++) Edge.dueOther(bent(n), NONE, "two", 1, 1);
        for (int n = 13; n < 16; n++) due(bent(n), NONE, "two", 1, 1);
        due(bent(40), NONE, "two", 1, 1);
        TightRings x = bent(12);
        due(x, 12, "put", 0, 0, 0);
        Edge.dueOther(x, NONE, "two", 1, 1);
        due(x, 1, "moved", 12, 50, 50);
        due(x, NONE, "two", 1, 1);
    }

    private static void twoNoneEmpty() {
        Edge.says("III", "SPOTS parted in two, none empty, so that the greater SIZE of both CIRCLES is least: that;");
        Edge.dueEach(Edge.of("a0,0;a4,0;a0,3;"), Edge.answers(9, 4, 3), "two", 1);
        // the other one's is the greater one
        Edge.dueEach(Edge.of("a0,0;a20,0;a24,0;"), Edge.answers(4, 1, 1), "two", 1);
        Edge.dueEach(Edge.of("a0,0;a4,0;a24,0;"), Edge.answers(4, 1, 3), "two", 1);
        // all twelve but the last, all but the first
        TightRings last = new TightRings();
        TightRings first = new TightRings();
        for (int k = 0; k < 12; k++) {
            due(last, k, "put", k == 11 ? 100 : 2 * k, 0, 0);
            due(first, k, "put", k == 0 ? -100 : 2 * k, 0, 0);
        }
        Edge.dueEach(last, Edge.answers(100, 1, 2047), "two", 1);
        Edge.dueEach(first, Edge.answers(100, 1, 1), "two", 1);
    }

    private static void twoLeastBits() {
        Edge.says("III", "of those parts that have the first SPOT the one that is least as bits (SPOT k: bit k).");
        due(Edge.of("a0,0;a1,0;a2,0;"), 1, "two", 1, 2);
        due(Edge.of("a0,0;a0,2;a2,0;a2,2;"), 3, "two", 1, 2);
        // SPOTS (0,0) (0,50) (1,0) (1,50)
        Edge.dueEach(Edge.of("a1,50;a0,50;a1,0;a0,0;"), Edge.answers(1, 4, 5), "two", 1);
        // (0, 0) lies in both circles; it has to be of the part that is told, and of one alone
        Edge.dueEach(Edge.of("a0,0;a4,-8;a4,8;"), Edge.answers(20, 1, 3), "two", 1);
        Edge.dueEach(Edge.of("a0,0;a1,50;a2,0;"), Edge.answers(1, 1, 5), "two", 1);
        // the middle one fits to both: least without it
        Edge.dueEach(Edge.of("a0,0;a4,0;a5,0;a6,0;a10,0;"), Edge.answers(25, 4, 3), "two", 1);
        Edge.dueEach(Edge.of("a0,0;a2,0;a3,0;a4,0;a6,0;"), Edge.answers(9, 4, 3), "two", 1);
    }

    private static void boxNotInALine() {
        Edge.says("III", "BOX (SPOTS not in one line): of all boxes with right corners that go along a side of the HULL, in which all lie, the one of the least room: ROOM;");
        for (String text : IN_A_LINE) due(Edge.of(text), NONE, "box", 1, 0);
        Edge.dueEach(Edge.of("a0,0;a1,0;a0,1;"), Edge.answers(1, 1, 0), "box", 1);
        Edge.dueEach(Edge.of("a0,0;a2,1;a1,3;a-1,2;"), Edge.answers(5, 1, 3), "box", 1);
        // the sides' rooms are 8, 56/5, 126/17, 8
        Edge.dueEach(Edge.of("a0,0;a3,0;a4,2;a0,1;"), Edge.answers(126, 17, 2), "box", 1);
        TightRings x = Edge.of("a-100,-100;b100,100;c100,-100;d-100,100;pa-3,-3;pb3,3;pc3,-3;pd-3,3;");
        due(x, 0, "tick", 20);
        Edge.dueEach(x, Edge.answers(102400, 1, 0), "box", 15);
    }

    private static void boxOfLikeOnes() {
        Edge.says("III", "its side by its corner ahead, of like ones the first of the HULL.");
        due(Edge.of("a0,3;a4,3;a4,0;a0,0;"), 3, "box", 1, 2);
        // all three sides of a right three have the room 12
        due(Edge.of("a4,0;a0,3;a0,0;"), 2, "box", 1, 2);
        Edge.dueEach(Edge.of("a0,0;a2,1;a9,9;"), Edge.answers(9, 1, 2), "box", 1);
    }

    private static void dueMeet(int want, String text) {
        TightRings x = Edge.of(text);
        due(x, want, "meets", 1, 2);
        due(x, want, "meets", 2, 1);
    }

    private static void meetInOnePlace() {
        Edge.says("III", "MEET do two SETS whose HULLS (rims and what is within; one SPOT, a line alone too) have a place in common.");
        dueMeet(1, "a3,4;b3,4;");
        dueMeet(0, "a3,4;b3,5;");
        dueMeet(0, "a3,4;b4,4;");
        // a SPOT and a line
        dueMeet(1, "a0,0;a4,4;b2,2;");
        dueMeet(1, "a0,0;a4,4;b4,4;");
        dueMeet(0, "a0,0;a4,4;b5,5;");
        dueMeet(0, "a0,0;a4,4;b-1,-1;");
        dueMeet(0, "a0,0;a4,4;b2,3;");
        // a SPOT and what is round: a corner, the rim, within, a step without
        for (String place : new String[] {"0,0", "4,0", "2,0", "2,2", "0,2", "1,1"}) dueMeet(1, "a0,0;a4,0;a0,4;b" + place + ";");
        for (String place : new String[] {"5,0", "2,-1", "3,2", "-1,2", "4,1", "0,5", "-1,-1"}) dueMeet(0, "a0,0;a4,0;a0,4;b" + place + ";");
        // a SPOT that lies without along one side alone: the first, the second, the third
        dueMeet(0, "a1,8;a5,0;a8,9;b4,1;");
        dueMeet(0, "a1,7;a3,1;a2,6;b3,2;");
        dueMeet(0, "a1,1;a7,3;a8,9;b6,7;");
        // lines that cross, that touch with their ends, in one line, side by side
        dueMeet(1, "a0,0;a4,4;b0,4;b4,0;");
        dueMeet(1, "a0,0;a4,4;b4,4;b9,0;");
        dueMeet(1, "a0,0;a4,0;b2,0;b2,5;");
        dueMeet(0, "a0,0;a4,0;b2,1;b2,5;");
        dueMeet(0, "a0,0;a4,0;b5,-5;b5,5;");
        dueMeet(1, "a0,0;a4,4;b4,4;b9,9;");
        dueMeet(1, "a0,0;a4,4;b3,3;b9,9;");
        dueMeet(0, "a0,0;a4,4;b5,5;b9,9;");
        dueMeet(0, "a0,0;a4,4;b0,1;b4,5;");
        // a line and what is round
        dueMeet(1, "a0,0;a4,0;a0,4;b-1,1;b9,1;");
        dueMeet(1, "a0,0;a4,0;a0,4;b-1,1;b1,-1;");
        dueMeet(0, "a0,0;a4,0;a0,4;b-2,1;b1,-2;");
        dueMeet(1, "a0,0;a4,0;a0,4;b4,0;b9,9;");
        dueMeet(1, "a0,0;a9,0;a0,9;b1,1;b2,2;");
        // both round: a corner, a side's part, one in the other, a cross without a corner within, apart
        dueMeet(1, "a0,0;a4,0;a0,4;b4,0;b9,0;b9,9;");
        dueMeet(1, "a0,0;a4,0;a4,4;a0,4;b4,3;b9,3;b9,9;b4,9;");
        dueMeet(0, "a0,0;a4,0;a4,4;a0,4;b5,3;b9,3;b9,9;b5,9;");
        dueMeet(1, "a0,0;a9,0;a0,9;b1,1;b2,1;b1,2;");
        dueMeet(1, "a-9,-1;a9,-1;a9,1;a-9,1;b-1,-9;b1,-9;b1,9;b-1,9;");
        dueMeet(0, "a0,0;a9,0;a0,9;b5,5;b9,9;b9,8;");
        dueMeet(1, "a0,0;a9,0;a0,9;b5,4;b9,9;b9,8;");
    }

    private static void fewerOfTwelve() {
        Edge.says("III", "FEWER (12 SPOTS at most):");
        for (int n = 1; n < 13; n++) {
            Edge.dueEach(Edge.row(n), Edge.answers(0, 1, 1), "fewer", 1, 1);
            due(Edge.row(n), (1 << n) - 1, "fewer", 1, n, 2);
        }
        for (int n = 13; n < 16; n++) due(Edge.row(n), NONE, "fewer", 1, 1, 0);
        due(Edge.row(40), NONE, "fewer", 1, 40, 0);
        TightRings x = Edge.row(12);
        due(x, 12, "put", 0, 0, 0);
        due(x, 0, "fewer", 1, 1, 0);
        due(x, NONE, "fewer", 1, 13, 0);
        due(x, 1, "moved", 12, 50, 50);
        due(x, NONE, "fewer", 1, 1, 0);
        // no three in one line, so that all circles count; the last three force the one about all
        TightRings most = Edge.of("a25,0;a-15,20;a-15,-20;a-16,-12;a-17,16;a-18,9;a-19,9;a-20,13;a-20,-11;a-21,-8;a-21,-9;a-24,6;");
        Edge.dueEach(most, Edge.answers(625, 1, 4095), "fewer", 1, 12);
        Edge.dueEach(most, Edge.answers(0, 1, 1), "fewer", 1, 1);
    }

    private static void fewerCircles() {
        Edge.says("III", "of all circles on whose rim one SPOT lies (of SIZE 0, there), two that are farthest apart on it, or three, the smallest that has k SPOTS at least in it (rim too): its SIZE; those SPOTS as bits;");
        // SPOTS (0,0) (0,6) (3,3) (6,0) (6,6)
        TightRings x = Edge.of("a0,0;a6,0;a6,6;a0,6;a3,3;");
        Edge.dueEach(x, Edge.answers(0, 1, 1), "fewer", 1, 1);
        Edge.dueEach(x, Edge.answers(9, 2, 5), "fewer", 1, 2);
        Edge.dueEach(x, Edge.answers(9, 1, 7), "fewer", 1, 3);
        Edge.dueEach(x, Edge.answers(18, 1, 31), "fewer", 1, 4);
        Edge.dueEach(x, Edge.answers(18, 1, 31), "fewer", 1, 5);
        // the least threes; (9, 9) and (-9, 9) lie far outside
        for (String text : new String[] {"a0,0;a1,0;a0,1;", "a1,1;a1,0;a0,1;", "a0,0;a1,1;a0,1;", "a0,0;a1,0;a1,1;"}) {
            Edge.dueEach(Edge.of(text + "a9,9;"), Edge.answers(1, 2, 7), "fewer", 1, 3);
            Edge.dueEach(Edge.of(text + "a-9,9;"), Edge.answers(1, 2, 14), "fewer", 1, 3);
        }
        // three on a rim: a sharp one; a blunt one's greater circle is never the smallest
        Edge.dueEach(Edge.of("a0,0;a4,0;a2,3;"), Edge.answers(169, 36, 7), "fewer", 1, 3);
        Edge.dueEach(Edge.of("a0,0;a4,0;a2,1;"), Edge.answers(4, 1, 7), "fewer", 1, 3);
        Edge.dueEach(Edge.of("a0,0;a4,0;a2,1;"), Edge.answers(5, 4, 3), "fewer", 1, 2);
    }

    private static void fewerOfLikeOnes() {
        Edge.says("III", "of like ones the one with most SPOTS, then the least bits.");
        // SPOTS (0,0) (0,2) (2,0) and (9,0) (9,2) (11,0) (11,2), all in circles of SIZE 2
        Edge.dueEach(Edge.of("a0,0;a2,0;a0,2;a9,0;a11,0;a11,2;a9,2;"), Edge.answers(2, 1, 120), "fewer", 1, 3);
        Edge.dueEach(Edge.of("a0,0;a2,0;a0,2;a9,0;a11,0;a11,2;"), Edge.answers(2, 1, 7), "fewer", 1, 3);
        Edge.dueEach(Edge.of("a0,0;a2,0;a2,2;a0,2;a9,0;a11,0;a11,2;"), Edge.answers(2, 1, 15), "fewer", 1, 3);
        // four in the first one, three each in two others
        Edge.dueEach(Edge.of("a0,0;a2,0;a0,2;a2,2;a9,0;a11,0;a9,2;a0,9;a2,9;a0,11;"), Edge.answers(2, 1, 51), "fewer", 1, 3);
        Edge.dueEach(Edge.of("a0,0;a2,0;a0,2;a2,2;a0,9;a0,11;a2,11;a9,9;a9,11;a11,11;"), Edge.answers(2, 1, 51), "fewer", 1, 3);
        Edge.dueEach(Edge.row(12), Edge.answers(1, 4, 3), "fewer", 1, 2);
        // the last two are nearer to each other
        Edge.dueEach(Edge.of("a0,0;a3,0;a6,0;a9,0;a11,0;"), Edge.answers(1, 1, 24), "fewer", 1, 2);
    }

    // ---- Promises

    private static void hull() {
        Edge.says("23", "HULL: how many corners (i NONE), the i-th corner's POINT.");
        TightRings x = Edge.frame();
        dueHull(x, 1, 0, 1, 2);
        dueHull(x, 2, 3);
        dueHull(x, 15, 0, 1, 3, 2);
        TightRings forty = Forty.corners();
        due(forty, 40, "hull", 1, NONE);
        due(forty, 17, "hull", 1, 39);
        due(forty, NONE, "hull", 1, 40);
    }

    private static void hullForOthers() {
        Edge.says("23", "NONE for others, without SPOTS.");
        TightRings x = Edge.frame();
        for (int i : new int[] {-2, -3, LOW, HIGH, 3}) due(x, NONE, "hull", 1, i);
        Edge.dueNoSet(x, NONE, "hull", NONE);
        Edge.dueNoSet(x, NONE, "hull", 0);
        due(new TightRings(), NONE, "hull", 1, NONE);
    }

    private static void area() {
        Edge.says("24", "AREA.");
        TightRings x = Edge.frame();
        due(x, 12, "area", 1);
        due(x, 0, "area", 2);
        due(x, 24, "area", 15);
    }

    private static void areaForOthers() {
        Edge.says("24", "NONE for others, without SPOTS.");
        Edge.dueNoSet(Edge.frame(), NONE, "area");
        due(new TightRings(), NONE, "area", 1);
    }

    private static void layer() {
        Edge.says("25", "LAYERS: how many (k NONE), the LAYER of POINT k's SPOT.");
        TightRings x = Edge.frame();
        due(x, 1, "layer", 1, NONE);
        due(x, 1, "layer", 15, NONE);
        due(x, 0, "layer", 2, 3);
        TightRings row = Edge.row(40);
        due(row, 0, "layer", 1, 0);
        due(row, 0, "layer", 1, 39);
        due(row, 19, "layer", 1, 19);
        due(row, 19, "layer", 1, 20);
    }

    private static void layerForOthers() {
        Edge.says("25", "NONE for others, without SPOTS, k not of the SET.");
        TightRings x = Edge.frame();
        Edge.dueNoSet(x, NONE, "layer", NONE);
        Edge.dueNoSet(x, NONE, "layer", 0);
        due(x, NONE, "layer", 1, 3);
        due(x, NONE, "layer", 2, 0);
        due(x, NONE, "layer", 15, 4);
        for (int k : new int[] {-2, 40, 64, -64, LOW, HIGH}) due(x, NONE, "layer", 15, k);
        due(Edge.row(40), NONE, "layer", 1, 40);
        due(x, 1, "gone", 1);
        due(x, NONE, "layer", 1, 1);
        due(new TightRings(), NONE, "layer", 1, NONE);
        // at a SPOT of the SET, but of another HEAP
        due(Edge.of("a3,3;b3,3;"), NONE, "layer", 1, 1);
    }

    private static void strip() {
        Edge.says("26", "STRIP: WIDE above (what 0), below (1), the POINT of the corner ahead (2).");
        TightRings x = Edge.frame();
        Edge.dueEach(x, Edge.answers(144, 25, 1), "strip", 1);
        Edge.dueEach(x, Edge.answers(9, 1, 0), "strip", 15);
    }

    private static void stripForOthers() {
        Edge.says("26", "NONE for others, SPOTS in one line.");
        TightRings x = Edge.frame();
        Edge.dueNoWhat(x, NONE, 3, "strip", 1);
        for (int what = 0; what < 3; what++) {
            Edge.dueNoSet(x, NONE, "strip", what);
            due(x, NONE, "strip", 2, what);
            due(Edge.row(40), NONE, "strip", 1, what);
            due(new TightRings(), NONE, "strip", 1, what);
        }
    }

    private static void couple() {
        Edge.says("27", "Of the k-th (0 on) COUPLE: the distance squared (what 0), the POINT of the first (1), of the second SPOT (2).");
        TightRings x = Edge.frame();
        Edge.dueEach(x, Edge.answers(9, 0, 2), "couple", 1, 0);
        Edge.dueEach(x, Edge.answers(25, 2, 1), "couple", 1, 2);
        Edge.dueEach(x, Edge.answers(25, 2, 1), "couple", 15, 5);
        Edge.dueEach(Edge.row(40), Edge.answers(1521, 0, 39), "couple", 1, 779);
    }

    private static void coupleForOthers() {
        Edge.says("27", "NONE for others, there is none such.");
        TightRings x = Edge.frame();
        for (int what = 0; what < 3; what++) {
            due(x, NONE, "couple", 1, 3, what);
            due(x, NONE, "couple", 15, 6, what);
            due(x, NONE, "couple", 2, 0, what);
            due(x, NONE, "couple", 1, -1, what);
            Edge.dueNoSet(x, NONE, "couple", 0, what);
            due(Edge.row(40), NONE, "couple", 1, 780, what);
            due(new TightRings(), NONE, "couple", 1, 0, what);
        }
        due(x, NONE, "couple", 1, LOW, 0);
        due(x, NONE, "couple", 1, HIGH, 0);
        Edge.dueNoWhat(x, NONE, 3, "couple", 1, 0);
    }

    private static void ring() {
        Edge.says("28", "RING: GAP above (what 0), below (1), INNER above (2), below (3), OUTER above (4), below (5), CENTRE's x above (6), below (7), y above (8), below (9).");
        TightRings x = Edge.frame();
        Edge.dueEach(x, Edge.answers(0, 1, 25, 4, 25, 4, 2, 1, 3, 2), "ring", 1);
        Edge.dueEach(x, Edge.answers(0, 1, 25, 4, 25, 4, 2, 1, 3, 2), "ring", 15);
        Edge.dueEach(Edge.of("a0,0;a1,2;a0,2;a0,1;"), Edge.answers(1, 1, 1, 4, 5, 4, 1, 2, 1, 1), "ring", 1);
    }

    private static void ringForOthers() {
        Edge.says("28", "-1000 for others, SPOTS in one line, more than 12.");
        TightRings x = Edge.frame();
        Edge.dueNoWhat(x, OTHER, 10, "ring", 1);
        for (int what = 0; what < 10; what++) {
            Edge.dueNoSet(x, OTHER, "ring", what);
            due(x, OTHER, "ring", 2, what);
            due(Edge.row(12), OTHER, "ring", 1, what);
            due(bent(13), OTHER, "ring", 1, what);
            due(new TightRings(), OTHER, "ring", 1, what);
        }
    }

    private static void two() {
        Edge.says("29", "TWO: the greater SIZE above (what 0), below (1), the part with the first SPOT, as bits (2).");
        TightRings x = Edge.frame();
        Edge.dueEach(x, Edge.answers(9, 4, 3), "two", 1);
        Edge.dueEach(x, Edge.answers(9, 4, 3), "two", 15);
    }

    private static void twoForOthers() {
        Edge.says("29", "NONE for others, fewer than 2 SPOTS, more than 12.");
        TightRings x = Edge.frame();
        Edge.dueNoWhat(x, NONE, 3, "two", 1);
        for (int what = 0; what < 3; what++) {
            Edge.dueNoSet(x, NONE, "two", what);
            due(x, NONE, "two", 2, what);
            due(Edge.row(13), NONE, "two", 1, what);
            Edge.dueOther(Edge.row(12), NONE, "two", 1, what);
            due(new TightRings(), NONE, "two", 1, what);
        }
    }

    private static void box() {
        Edge.says("30", "BOX: ROOM above (what 0), below (1), the POINT of the corner ahead of its side (2).");
        TightRings x = Edge.frame();
        Edge.dueEach(x, Edge.answers(12, 1, 0), "box", 1);
        Edge.dueEach(x, Edge.answers(12, 1, 0), "box", 15);
    }

    private static void boxForOthers() {
        Edge.says("30", "NONE for others, SPOTS in one line.");
        TightRings x = Edge.frame();
        Edge.dueNoWhat(x, NONE, 3, "box", 1);
        for (int what = 0; what < 3; what++) {
            Edge.dueNoSet(x, NONE, "box", what);
            due(x, NONE, "box", 2, what);
            due(Edge.row(40), NONE, "box", 1, what);
            due(new TightRings(), NONE, "box", 1, what);
        }
    }

    private static void meets() {
        Edge.says("31", "Whether two SETS MEET: 1, 0.");
        TightRings x = Edge.of("a0,0;a4,0;a0,4;b2,2;c3,2;");
        due(x, 1, "meets", 1, 2);
        due(x, 0, "meets", 1, 4);
        due(x, 1, "meets", 1, 1);
        due(x, 1, "meets", 15, 4);
        due(x, 1, "meets", 4, 15);
        // at the TICK that is
        due(x, 1, "pace", 2, -1, 0);
        due(x, 0, "meets", 1, 4);
        due(x, 0, "tick", 1);
        due(x, 1, "meets", 1, 4);
    }

    private static void meetsForOthers() {
        Edge.says("31", "NONE for others, one without SPOTS.");
        TightRings x = Edge.frame();
        Edge.dueNoSet(x, NONE, "meets", 1);
        for (int set : new int[] {0, 16, 17, -1, LOW, HIGH, 4, 8, 12}) {
            due(x, NONE, "meets", 1, set);
            due(x, NONE, "meets", set, 1);
            due(x, NONE, "meets", set, set);
        }
        due(new TightRings(), NONE, "meets", 1, 1);
    }

    private static void fewer() {
        Edge.says("32", "FEWER with k SPOTS at least (1 to as many as there are): SIZE above (what 0), below (1), the SPOTS as bits (2).");
        TightRings x = Edge.frame();
        Edge.dueEach(x, Edge.answers(0, 1, 1), "fewer", 1, 1);
        Edge.dueEach(x, Edge.answers(25, 4, 7), "fewer", 1, 3);
        Edge.dueEach(x, Edge.answers(9, 4, 3), "fewer", 15, 2);
        Edge.dueEach(x, Edge.answers(25, 4, 15), "fewer", 15, 3);
        Edge.dueEach(x, Edge.answers(25, 4, 15), "fewer", 15, 4);
        for (int least : new int[] {0, -1, LOW, 4, 5, HIGH}) {
            for (int what = 0; what < 3; what++) due(x, NONE, "fewer", 1, least, what);
        }
        // SIZE 0 behind another one
        due(x, 25, "fewer", 15, 4, 0);
        due(x, 0, "fewer", 15, 1, 0);
        due(x, 9, "two", 15, 0);
        due(x, 1, "fewer", 2, 1, 1);
        due(x, NONE, "fewer", 15, 5, 0);
        due(x, NONE, "fewer", 2, 2, 0);
        // POINTS at one SPOT are one
        due(Edge.of("a0,0;a0,0;a1,1;"), NONE, "fewer", 1, 3, 0);
    }

    private static void fewerForOthers() {
        Edge.says("32", "NONE for others, more than 12.");
        TightRings x = Edge.frame();
        Edge.dueNoWhat(x, NONE, 3, "fewer", 1, 1);
        for (int what = 0; what < 3; what++) {
            Edge.dueNoSet(x, NONE, "fewer", 1, what);
            due(Edge.row(13), NONE, "fewer", 1, 1, what);
            Edge.dueOther(Edge.row(12), NONE, "fewer", 1, 12, what);
            due(new TightRings(), NONE, "fewer", 1, 1, what);
        }
    }
}
