/** Terms II, promises 16 to 22: each sentence that names a bound, at the last value that is taken and the first refused. */
public final class CircleEdgeTests {
    private static final int NONE = Edge.NONE;
    private static final int OTHER = Edge.OTHER;
    private static final int LOW = Edge.LOW;
    private static final int HIGH = Edge.HIGH;
    /** About (0, 0) with radius 5, no two opposite. */
    private static final String UNLIKE_ON_RIM = "a5,0;a-3,4;a-4,3;a-4,-3;a-3,-4;a0,0;";

    public static void main(String[] args) throws Exception {
        oneSpotAtLeast();
        allLieInIt();
        itsCentre();
        tightOneToThree();
        tightFewest();
        tightLeastNumbers();
        tightOfASpot();
        howManyOnTheRim();
        neededOnes();
        neededAlone();
        proofs();
        circle();
        circleForOthers();
        tight();
        tightForOthers();
        rim();
        rimForOthers();
        insideFarOff();
        inside();
        insideForOthers();
        needed();
        neededForOthers();
        proof();
        proofForOthers();
        when();
        whenNone();
        Edge.end("II", "16", "17", "18", "19", "20", "21", "22");
    }

    private static void due(TightRings x, long want, String call, long... args) {
        Edge.due(x, want, call, args);
    }

    private static void dueTight(TightRings x, int set, long... points) {
        due(x, points.length, "tight", set, NONE);
        Edge.dueEach(x, points, "tight", set);
        due(x, NONE, "tight", set, points.length);
    }

    // ---- Terms II

    private static void oneSpotAtLeast() {
        Edge.says("II", "CIRCLE of a SET (one SPOT at least):");
        TightRings x = Edge.of("a7,-8;a7,-8;b7,-8;");
        Edge.dueEach(x, Edge.answers(0, 1, 7, 1, -8, 1), "circle", 1);
        Edge.dueEach(x, Edge.answers(0, 1, 7, 1, -8, 1), "circle", 15);
        due(x, OTHER, "circle", 4, 0);
        due(x, 1, "gone", 2);
        due(x, OTHER, "circle", 2, 0);
        due(x, 1, "back");
        due(x, 0, "circle", 2, 0);
    }

    private static void allLieInIt() {
        Edge.says("II", "the smallest one in which all its SPOTS lie (on its rim, too):");
        // the fourth one lies on the rim of the others' circle, then a step beside it
        TightRings x = Edge.of("a0,0;a8,0;a8,6;b0,6;b1,5;b4,3;");
        Edge.dueEach(x, Edge.answers(25, 1, 4, 1, 3, 1), "circle", 1);
        Edge.dueEach(x, Edge.answers(25, 1, 4, 1, 3, 1), "circle", 3);
        due(x, 1, "moved", 3, 0, 7);
        // from (8, 0) to (0, 7)
        Edge.dueEach(x, Edge.answers(113, 4, 4, 1, 7, 2), "circle", 3);
        due(x, 1, "moved", 3, 1, 6);
        Edge.dueEach(x, Edge.answers(25, 1, 4, 1, 3, 1), "circle", 3);
        // all forty in one line: the first and the last force it
        Edge.dueEach(Edge.row(40), Edge.answers(1521, 4, 39, 2, 0, 1), "circle", 1);
    }

    private static void itsCentre() {
        Edge.says("II", "SIZE is its radius squared; its CENTRE.");
        Edge.dueEach(Edge.of("a0,0;a4,0;a2,3;"), Edge.answers(169, 36, 2, 1, 5, 6), "circle", 1);
        Edge.dueEach(Edge.of("a0,0;a4,0;a2,2;"), Edge.answers(4, 1, 2, 1, 0, 1), "circle", 1);
        Edge.dueEach(Edge.of("a0,0;a4,0;a2,1;"), Edge.answers(4, 1, 2, 1, 0, 1), "circle", 1);
        // as far out as POINTS can STAND
        TightRings x = Edge.of("a-100,-100;b100,100;c100,-100;d-100,100;pa-3,-3;pb3,3;pc3,-3;pd-3,3;");
        due(x, 0, "tick", 20);
        Edge.dueEach(x, Edge.answers(51200, 1, 0, 1, 0, 1), "circle", 15);
        Edge.dueEach(x, Edge.answers(25600, 1, -160, 1, 0, 1), "circle", 9);
    }

    private static void tightOneToThree() {
        Edge.says("II", "1 to 3.");
        dueTight(Edge.of("a3,3;"), 1, 0);
        dueTight(Edge.of("a3,3;a4,4;"), 1, 0, 1);
        dueTight(Edge.of("a0,0;a4,0;a2,3;"), 1, 0, 1, 2);
        dueTight(Edge.of(UNLIKE_ON_RIM), 1, 0, 1, 3);
    }

    private static void tightFewest() {
        Edge.says("II", "TIGHT: of sets of POINTS of SPOTS of it whose own CIRCLE that is those with the fewest,");
        // all on one rim: two that lie opposite are fewer than three, even with greater numbers
        dueTight(Edge.of("a5,0;a-3,4;a-3,-4;a3,-4;"), 1, 1, 3);
        dueTight(Edge.of("a0,0;a4,0;a0,3;"), 1, 1, 2);
        dueTight(Edge.of("a2,1;a0,0;a4,0;"), 1, 1, 2);
        // (0, 0), that is no SPOT, lies opposite the second one
        dueTight(Edge.of("a-2,6;a10,10;a6,-2;"), 1, 0, 1, 2);
        // a fourth on the rim of three does not count
        dueTight(Edge.of("a5,0;a-3,4;a-3,-4;a3,4;"), 1, 2, 3);
    }

    private static void tightLeastNumbers() {
        Edge.says("II", "of these the one with the least number, then the least second one, ..:");
        dueTight(Edge.of("a0,6;a6,6;a6,0;a0,0;"), 1, 0, 2);
        dueTight(Edge.of("a6,6;a0,6;a6,0;a0,0;"), 1, 0, 3);
        dueTight(Edge.of("a3,3;a6,6;a6,0;a0,6;a0,0;"), 1, 1, 4);
        // of 0 1 3, 0 1 4, 0 2 3, 0 2 4; with others' numbers the least second one is 2
        dueTight(Edge.of(UNLIKE_ON_RIM), 1, 0, 1, 3);
        dueTight(Edge.of("a5,0;a0,0;a-4,-3;a-3,-4;a-3,4;a-4,3;"), 1, 0, 2, 4);
        // 0, 1 do not force it together with any third one: 5, 0 and 4, 3
        dueTight(Edge.of("a5,0;a4,3;a-4,3;a-3,-4;"), 1, 0, 2, 3);
    }

    private static void tightOfASpot() {
        Edge.says("II", "POINTS of SPOTS of it");
        TightRings x = Edge.of("b0,0;a0,0;a9,0;b9,0;");
        dueTight(x, 1, 1, 2);
        dueTight(x, 2, 0, 3);
        dueTight(x, 3, 0, 2);
        due(x, 1, "gone", 0);
        dueTight(x, 3, 1, 2);
    }

    private static void howManyOnTheRim() {
        Edge.says("II", "RIM: how many SPOTS lie on it.");
        due(Edge.of("a3,3;a3,3;"), 1, "rim", 1);
        due(Edge.of("a3,3;a3,3;a5,5;"), 2, "rim", 1);
        due(Edge.of("a0,0;a4,0;a2,3;a2,1;"), 3, "rim", 1);
        due(Edge.of(UNLIKE_ON_RIM), 5, "rim", 1);
        due(Edge.row(40), 2, "rim", 1);
        // all that have whole places and the radius 25: twenty
        TightRings x = Edge.of("a25,0;a-25,0;a0,25;a0,-25;a24,7;a24,-7;a-24,7;a-24,-7;a7,24;a7,-24;a-7,24;a-7,-24;");
        Edge.dueText(x, 8, "b20,15;b20,-15;b-20,15;b-20,-15;b15,20;b15,-20;b-15,20;b-15,-20;");
        due(x, 20, "rim", 3);
        due(x, 12, "rim", 1);
        due(x, 8, "rim", 2);
    }

    private static void neededOnes() {
        Edge.says("II", "NEEDED is a POINT of the SET without which alone the SIZE would be less");
        TightRings x = Edge.of("a0,0;a4,0;a2,3;a2,1;");
        long[] want = {1, 1, 1, 0};
        for (int k = 0; k < 4; k++) due(x, want[k], "needed", 1, k);
        TightRings square = Edge.of("a0,0;a6,0;a6,6;a0,6;");
        for (int k = 0; k < 4; k++) due(square, 0, "needed", 1, k);
        // a right three: without the right corner all is as it was
        TightRings right = Edge.of("a0,0;a4,0;a0,3;");
        due(right, 0, "needed", 1, 0);
        due(right, 1, "needed", 1, 1);
        due(right, 1, "needed", 1, 2);
        // another POINT at the same SPOT stands in for it, if it is of the SET
        TightRings twice = Edge.of("a0,0;a4,0;b4,0;");
        due(twice, 1, "needed", 1, 1);
        due(twice, 0, "needed", 3, 1);
        due(twice, 0, "needed", 3, 2);
        due(twice, 1, "needed", 3, 0);
    }

    private static void neededAlone() {
        Edge.says("II", "(or there would be no SPOT).");
        TightRings x = Edge.of("a3,3;b3,3;");
        due(x, 1, "needed", 1, 0);
        due(x, 1, "needed", 2, 1);
        due(x, 0, "needed", 3, 0);
        due(x, 0, "needed", 3, 1);
        TightRings last = Edge.row(40);
        for (int k = 0; k < 39; k++) Edge.ask(last, "gone", k);
        due(last, 1, "needed", 1, 39);
    }

    private static void proofs() {
        Edge.says("II", "A PROOF is some POINTS of the SET whose own CIRCLE has that SIZE.");
        TightRings x = Edge.of("a0,0;a6,0;a6,6;a0,6;a3,3;b0,0;");
        long[] proofs = {5, 10, 7, 13, 15, 31, 21};
        long[] none = {1, 3, 9, 16, 17, 20, 25};
        for (long points : proofs) due(x, 1, "proof", 1, points);
        for (long points : none) due(x, 0, "proof", 1, points);
        // the POINT that is not the SPOT's proves as well
        due(x, 1, "proof", 3, 36);
        due(x, 1, "proof", 2, 32);
        // of the same SIZE as the SET's, 25/4, at another place
        due(Edge.of("a0,0;a5,0;a0,5;b10,0;"), 0, "proof", 1, 3);
        due(Edge.of("a0,0;a4,3;a4,0;a0,3;"), 1, "proof", 1, 12);
        // one SPOT: each of its POINTS proves its SIZE 0
        TightRings one = Edge.of("a1,1;a1,1;");
        for (long points = 1; points < 4; points++) due(one, 1, "proof", 1, points);
    }

    // ---- Promises

    private static void circle() {
        Edge.says("16", "CIRCLE of a SET: SIZE above (what 0), below (1), CENTRE's x above (2), below (3), y above (4), below (5).");
        TightRings x = Edge.frame();
        Edge.dueEach(x, Edge.answers(25, 4, 2, 1, 3, 2), "circle", 1);
        Edge.dueEach(x, Edge.answers(0, 1, 4, 1, 3, 1), "circle", 2);
        Edge.dueEach(x, Edge.answers(25, 4, 2, 1, 3, 2), "circle", 15);
    }

    private static void circleForOthers() {
        Edge.says("16", "-1000 for others, without SPOTS (-1000 may be a CENTRE's, too).");
        TightRings x = Edge.frame();
        for (int what = 0; what < 6; what++) Edge.dueNoSet(x, OTHER, "circle", what);
        Edge.dueNoWhat(x, OTHER, 6, "circle", 1);
        for (int what = 0; what < 6; what++) due(new TightRings(), OTHER, "circle", 15, what);
        Edge.dueEach(Edge.of("a-93,2;a-92,7;a-88,5;"), Edge.answers(1105, 121, -1000, 11, 46, 11), "circle", 1);
    }

    private static void tight() {
        Edge.says("17", "TIGHT: how many (i NONE), the i-th (0 on) POINT of these by numbers.");
        TightRings x = Edge.frame();
        dueTight(x, 1, 1, 2);
        dueTight(x, 2, 3);
        dueTight(x, 15, 0, 3);
        TightRings three = Edge.of("a9,9;a2,3;a9,9;a4,0;a9,9;a0,0;");
        for (int k = 0; k < 5; k += 2) due(three, 1, "gone", k);
        dueTight(three, 1, 1, 3, 5);
        dueTight(Edge.row(40), 1, 0, 39);
    }

    private static void tightForOthers() {
        Edge.says("17", "NONE for others, without SPOTS.");
        TightRings x = Edge.frame();
        for (int i : new int[] {-2, -1000, LOW, HIGH, 2, 3}) due(x, NONE, "tight", 1, i);
        Edge.dueNoSet(x, NONE, "tight", NONE);
        Edge.dueNoSet(x, NONE, "tight", 0);
        due(x, NONE, "tight", 2, 1);
        due(Edge.of("a0,0;a4,0;a2,3;"), NONE, "tight", 1, 3);
        due(new TightRings(), NONE, "tight", 1, NONE);
        // what an earlier call found is not told of a smaller one
        TightRings later = Edge.of("a0,0;a4,0;a2,3;b9,9;");
        due(later, 2, "tight", 1, 2);
        due(later, NONE, "tight", 2, 2);
        due(later, NONE, "tight", 2, 1);
    }

    private static void rim() {
        Edge.says("18", "RIM.");
        TightRings x = Edge.frame();
        due(x, 3, "rim", 1);
        due(x, 1, "rim", 2);
        due(x, 4, "rim", 15);
    }

    private static void rimForOthers() {
        Edge.says("18", "NONE for others, without SPOTS.");
        Edge.dueNoSet(Edge.frame(), NONE, "rim");
        due(new TightRings(), NONE, "rim", 15);
    }

    private static void insideFarOff() {
        Edge.says("19", "Whether a place (-300 to 300 each) is IN the CIRCLE:");
        TightRings x = Edge.frame();
        for (int[] place : new int[][] {{300, 0}, {-300, 0}, {0, 300}, {0, -300}, {300, 300}, {-300, -300}}) {
            due(x, 0, "inside", 1, place[0], place[1]);
        }
        for (int[] place : new int[][] {{301, 0}, {-301, 0}, {0, 301}, {0, -301}, {LOW, 0}, {0, LOW}, {HIGH, 0}, {0, HIGH}}) {
            due(x, NONE, "inside", 1, place[0], place[1]);
        }
    }

    private static void inside() {
        Edge.says("19", "2 inside, 1 on the rim, 0 outside.");
        // (2, 5/6) with 169/36: from (2, -1) it is 121/36, from (0, 2) 193/36
        TightRings x = Edge.of("a0,0;a4,0;a2,3;b9,9;");
        due(x, 2, "inside", 1, 2, 1);
        due(x, 2, "inside", 1, 2, -1);
        due(x, 1, "inside", 1, 4, 0);
        due(x, 1, "inside", 1, 2, 3);
        due(x, 0, "inside", 1, 0, 2);
        due(x, 0, "inside", 1, 2, -2);
        due(x, 1, "inside", 2, 9, 9);
        due(x, 0, "inside", 2, 9, 8);
        due(x, 0, "inside", 2, 8, 9);
        TightRings far = Edge.of("a-100,-100;b100,100;pa-3,-3;pb3,3;");
        due(far, 0, "tick", 20);
        due(far, 1, "inside", 3, 160, -160);
        due(far, 1, "inside", 3, -160, -160);
        due(far, 0, "inside", 3, 161, -160);
        due(far, 2, "inside", 3, 160, -159);
        due(far, 2, "inside", 3, 226, 0);
        due(far, 0, "inside", 3, 227, 0);
    }

    private static void insideForOthers() {
        Edge.says("19", "NONE for others, without SPOTS.");
        Edge.dueNoSet(Edge.frame(), NONE, "inside", 0, 0);
        due(new TightRings(), NONE, "inside", 1, 0, 0);
    }

    private static void needed() {
        Edge.says("20", "NEEDED: 1, 0.");
        TightRings x = Edge.frame();
        due(x, 0, "needed", 1, 0);
        due(x, 1, "needed", 1, 1);
        due(x, 1, "needed", 2, 3);
        for (int k = 0; k < 4; k++) due(x, 0, "needed", 15, k);
        TightRings full = Edge.row(40);
        due(full, 1, "needed", 1, 0);
        due(full, 0, "needed", 1, 1);
        due(full, 0, "needed", 1, 38);
        due(full, 1, "needed", 1, 39);
    }

    private static void neededForOthers() {
        Edge.says("20", "NONE: POINT k is not of the SET, others.");
        TightRings x = Edge.frame();
        Edge.dueNoSet(x, NONE, "needed", 1);
        due(x, NONE, "needed", 1, 3);
        due(x, NONE, "needed", 2, 1);
        due(x, NONE, "needed", 15, 4);
        for (int k : new int[] {-1, 40, 64, 65, -63, LOW, HIGH}) {
            due(x, NONE, "needed", 15, k);
            due(x, NONE, "needed", 1, k);
        }
        due(Edge.row(40), NONE, "needed", 1, 40);
        due(x, 1, "gone", 1);
        due(x, NONE, "needed", 1, 1);
        due(new TightRings(), NONE, "needed", 1, 0);
    }

    private static void proof() {
        Edge.says("21", "PROOF of POINTS (bit k: POINT k): 1, 0.");
        TightRings x = Edge.row(40);
        due(x, 1, "proof", 1, 1L | 1L << 39);
        due(x, 1, "proof", 1, (1L << 40) - 1);
        due(x, 0, "proof", 1, 1L);
        due(x, 0, "proof", 1, 1L << 39);
        due(x, 0, "proof", 1, 1L << 39 | 1L << 1);
        due(x, 0, "proof", 1, 1L << 38 | 1L);
        due(x, 0, "proof", 1, 1L | 1L << 7);
        due(x, 0, "proof", 1, (1L << 39) - 1);
    }

    private static void proofForOthers() {
        Edge.says("21", "NONE: none, one that is not of the SET, others.");
        TightRings x = Edge.frame();
        due(x, NONE, "proof", 1, 0);
        due(x, NONE, "proof", 15, 0);
        due(x, NONE, "proof", 1, 6 + 8);
        due(x, NONE, "proof", 2, 6);
        due(x, NONE, "proof", 15, 6 + 16);
        for (int bit : new int[] {39, 40, 41, 62, 63}) due(x, NONE, "proof", 15, 6 | 1L << bit);
        due(Edge.row(40), NONE, "proof", 1, 1L << 39 | 1L | 1L << 40);
        due(Edge.row(40), NONE, "proof", 1, -1L);
        due(x, NONE, "proof", 15, Long.MIN_VALUE);
        due(x, NONE, "proof", 15, -1L);
        Edge.dueNoSet(x, NONE, "proof", 6);
        Edge.dueNoSet(x, NONE, "proof", 0);
        due(new TightRings(), NONE, "proof", 1, 1);
        due(x, 1, "gone", 1);
        due(x, NONE, "proof", 1, 6);
    }

    private static void when() {
        Edge.says("22", "WHEN: the first TICK of all (0 to 20) at which the SET's SIZE is more than m (0 on).");
        // at TICK t the SIZE is t squared
        TightRings x = Edge.of("a0,0;b0,0;pb2,0;");
        for (int tick : new int[] {0, 7, 20}) {
            Edge.ask(x, "tick", tick);
            due(x, 1, "when", 3, 0);
            due(x, 3, "when", 3, 8);
            due(x, 4, "when", 3, 9);
            due(x, 20, "when", 3, 361);
            due(x, 20, "when", 3, 399);
            due(x, NONE, "when", 3, 400);
            due(x, tick, "is", 1);
        }
        // 9 at TICK 0, 0 at TICK 3, 289 at TICK 20: past what it was at first only at TICK 7
        TightRings there = Edge.of("a0,0;b6,0;pb-2,0;");
        due(there, 0, "when", 3, 8);
        due(there, 7, "when", 3, 9);
        // 5/2 is more than 2
        TightRings half = Edge.of("a0,0;a1,3;");
        due(half, 0, "when", 1, 2);
        due(half, NONE, "when", 1, 3);
        TightRings far = Edge.of("a-100,-100;b100,100;pa-3,-3;pb3,3;");
        due(far, 20, "when", 3, 51199);
        due(far, NONE, "when", 3, 51200);
        due(far, 0, "when", 3, 19999);
        due(far, 1, "when", 3, 20000);
    }

    private static void whenNone() {
        Edge.says("22", "NONE: none, others, without SPOTS.");
        TightRings x = Edge.frame();
        due(x, 0, "when", 1, 0);
        for (int m : new int[] {-1, -2, LOW}) due(x, NONE, "when", 1, m);
        due(x, NONE, "when", 1, HIGH);
        due(x, NONE, "when", 2, 0);
        Edge.dueNoSet(x, NONE, "when", 0);
        due(new TightRings(), NONE, "when", 1, 0);
    }
}
