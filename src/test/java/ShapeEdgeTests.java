/** Terms III from WORSE on, promises 33 to 43: each sentence that names a bound, at the last value taken and the first refused. */
public final class ShapeEdgeTests {
    private static final int NONE = Edge.NONE;
    private static final int OTHER = Edge.OTHER;
    private static final int LOW = Edge.LOW;
    private static final int HIGH = Edge.HIGH;
    private static final String SQUARE = "a0,0;a6,0;a6,6;a0,6;a3,3;";
    private static final int[][] SIGNS = {{1, 0}, {-1, 0}, {0, 1}, {0, -1}, {1, 1}, {-1, -1}, {1, -1}, {-1, 1}};

    public static void main(String[] args) throws Exception {
        worseSize();
        worseTightOnes();
        calmOfAll();
        calmFirst();
        reachAlong();
        reachOfLikeOnes();
        reachWide();
        wholeOnTheRim();
        wholeWithin();
        seenSides();
        seenCorners();
        heaviestOfSets();
        heaviestOfLikeOnes();
        deepSides();
        deepTurned();
        changesOfTicks();
        worse();
        worseForOthers();
        calm();
        calmForOthers();
        reach();
        reachForOthers();
        whole();
        wholeForOthers();
        sees();
        seesForOthers();
        heaviest();
        heaviestForOthers();
        deep();
        deepForOthers();
        meetsAt();
        meetsAtNone();
        changes();
        changesForOthers();
        write();
        writeForOthers();
        octet();
        octetNone();
        Edge.end("III b", "33", "34", "35", "36", "37", "38", "39", "40", "41", "42", "43");
    }

    private static void due(TightRings x, long want, String call, long... args) {
        Edge.due(x, want, call, args);
    }

    /** A place so far off in either way is taken, one farther or much farther is not. */
    private static void dueFar(TightRings x, int far, long refusal, String call, long set, long... rest) {
        long[] args = new long[rest.length + 3];
        args[0] = set;
        System.arraycopy(rest, 0, args, 3, rest.length);
        for (int[] sign : SIGNS) {
            args[1] = (long) far * sign[0];
            args[2] = (long) far * sign[1];
            Edge.dueOther(x, refusal, call, args);
            args[1] = (far + 1L) * sign[0];
            args[2] = (far + 1L) * sign[1];
            due(x, refusal, call, args);
        }
        for (int[] place : new int[][] {{LOW, 0}, {0, LOW}, {HIGH, 0}, {0, HIGH}, {LOW, HIGH}, {far + 1, far}, {-far, -far - 1}}) {
            args[1] = place[0];
            args[2] = place[1];
            due(x, refusal, call, args);
        }
    }

    /** Four that STAND as far out as can be, at TICK 20. */
    private static TightRings widest() {
        TightRings x = Edge.of("a-100,-100;b100,-100;c100,100;d-100,100;pa-3,-3;pb3,-3;pc3,3;pd-3,3;");
        due(x, 0, "tick", 20);
        return x;
    }

    // ---- Terms III

    private static void worseSize() {
        Edge.says("III b", "WORSE: the SIZE, if a POINT more STOOD at a place;");
        TightRings x = Edge.of("a0,0;a4,0;a0,3;b5,5;");
        Edge.dueEach(x, Edge.answers(169, 4, 1), "worse", 1, 0, -10);
        // within, on the rim, at a SPOT: as it is
        for (int[] place : new int[][] {{1, 1}, {4, 3}, {0, 0}, {4, 0}}) Edge.dueEach(x, Edge.answers(25, 4, 2), "worse", 1, place[0], place[1]);
        // from (4, 4) to (0, 0); (4, 0) lies on that rim, too
        Edge.dueEach(x, Edge.answers(8, 1, 1), "worse", 1, 4, 4);
        Edge.dueEach(x, Edge.answers(0, 1, 1), "worse", 2, 5, 5);
        Edge.dueEach(x, Edge.answers(1, 4, 1), "worse", 2, 5, 6);
        due(x, 4, "is", 0);
        due(x, 3, "spots", 1);
        // a place more than forty POINTS: from (-41, 0) to (39, 0)
        TightRings row = Edge.row(40);
        Edge.dueEach(row, Edge.answers(1600, 1, 1), "worse", 1, -41, 0);
        Edge.dueEach(row, Edge.answers(1600, 1, 1), "worse", 1, 80, 0);
        due(row, 40, "spots", 1);
        Edge.dueEach(widest(), Edge.answers(51200, 1, 2), "worse", 15, 150, 150);
    }

    private static void worseTightOnes() {
        Edge.says("III b", "how many of the TIGHT ones (as it is) lie on the rim of that CIRCLE.");
        // TIGHT are (-5, 0) and (5, 0); far below, (0, 5) alone is farthest
        TightRings x = Edge.of("a-5,0;a5,0;a0,5;");
        due(x, 0, "worse", 1, 0, -100, 2);
        due(x, 1, "worse", 1, -100, 0, 2);
        due(x, 2, "worse", 1, 0, 0, 2);
        // a place a little beyond the rim: it and both of them
        due(Edge.of("a-5,0;a5,0;a0,1;"), 2, "worse", 1, 0, -6, 2);
        // three TIGHT ones: within; beyond a corner, from (4, 3) to (0, 0); beyond a side, from (2, -2) to (2, 3)
        TightRings three = Edge.of("a0,0;a4,0;a2,3;");
        due(three, 3, "worse", 1, 2, -1, 2);
        due(three, 2, "worse", 1, 4, 3, 2);
        due(three, 1, "worse", 1, 2, -2, 2);
    }

    private static void calmOfAll() {
        Edge.says("III b", "CALM: the TICK of all (0 to 20) with the least SIZE,");
        TightRings last = Edge.of("a0,0;b100,0;pb-3,0;");
        TightRings first = Edge.of("a0,0;b1,0;pb3,0;");
        TightRings between = Edge.of("a0,0;b38,0;pb-2,0;");
        for (int tick : new int[] {0, 9, 20}) {
            Edge.ask(last, "tick", tick);
            Edge.ask(first, "tick", tick);
            Edge.ask(between, "tick", tick);
            Edge.dueEach(last, Edge.answers(20, 400, 1), "calm", 3);
            Edge.dueEach(first, Edge.answers(0, 1, 4), "calm", 3);
            Edge.dueEach(between, Edge.answers(19, 0, 1), "calm", 3);
            due(last, tick, "is", 1);
        }
        // at TICK 21 it would be 0
        Edge.dueEach(Edge.of("a0,0;b42,0;pb-2,0;"), Edge.answers(20, 1, 1), "calm", 3);
    }

    private static void calmFirst() {
        Edge.says("III b", "with the least SIZE, the first.");
        // at TICK t the two are 21 - 2 t apart: 1 at 10 and at 11
        Edge.dueEach(Edge.of("a0,0;b21,0;pb-2,0;"), Edge.answers(10, 1, 4), "calm", 3);
        Edge.dueEach(Edge.of("a0,0;b9,0;"), Edge.answers(0, 81, 4), "calm", 3);
        Edge.dueEach(Edge.of("a0,0;pa3,3;"), Edge.answers(0, 0, 1), "calm", 1);
    }

    private static void reachAlong() {
        Edge.says("III b", "REACH along x, y (-100 to 100, not both 0): of the HULL's corners the one of which its x times that x and its y times that y together are most,");
        TightRings x = Edge.of(SQUARE);
        dueFar(x, 100, OTHER, "reach", 1, 1);
        for (int what = 0; what < 4; what++) due(x, OTHER, "reach", 1, 0, 0, what);
        Edge.dueEach(x, Edge.answers(1, 600, 36, 1), "reach", 1, 100, 0);
        Edge.dueEach(x, Edge.answers(0, 0, 36, 1), "reach", 1, -1, 0);
        Edge.dueEach(x, Edge.answers(2, 6, 36, 1), "reach", 1, 0, 1);
        Edge.dueEach(x, Edge.answers(0, 0, 36, 1), "reach", 1, 0, -100);
        Edge.dueEach(x, Edge.answers(2, 12, 72, 1), "reach", 1, 1, 1);
        Edge.dueEach(x, Edge.answers(3, 6, 72, 1), "reach", 1, -1, 1);
        Edge.dueEach(x, Edge.answers(1, 6, 72, 1), "reach", 1, 1, -1);
        Edge.dueEach(x, Edge.answers(0, 0, 72, 1), "reach", 1, -1, -1);
    }

    private static void reachOfLikeOnes() {
        Edge.says("III b", "of like ones the first of the HULL; that number;");
        TightRings x = Edge.of("a0,6;a6,6;a6,3;a6,0;a0,0;");
        // (6, 3) is no corner, though its number is less than that of (6, 0)
        due(x, 3, "reach", 1, 1, 0, 0);
        due(x, 4, "reach", 1, -1, 0, 0);
        due(x, 1, "reach", 1, 0, 1, 0);
        due(x, 4, "reach", 1, 0, -1, 0);
        TightRings line = Edge.of("a5,5;a3,3;a1,1;");
        due(line, 2, "reach", 1, 1, -1, 0);
        due(line, 0, "reach", 1, 1, 1, 0);
        due(line, 2, "reach", 1, -1, -1, 0);
        due(line, -2, "reach", 1, -1, -1, 1);
        Edge.dueEach(Edge.row(40), Edge.answers(39, 3900, 1521, 1), "reach", 1, 100, 0);
    }

    private static void reachWide() {
        Edge.says("III b", "how wide it is that way, squared (the most less the least such number, squared, by x and y squared together).");
        TightRings x = Edge.of(SQUARE);
        Edge.dueEach(x, Edge.answers(2, 18, 324, 5), "reach", 1, 2, 1);
        Edge.dueEach(x, Edge.answers(2, 1200, 72, 1), "reach", 1, 100, 100);
        Edge.dueEach(Edge.of("a7,7;"), Edge.answers(0, 700, 0, 1), "reach", 1, 100, 0);
        Edge.dueEach(Edge.of("a7,7;a8,8;"), Edge.answers(0, 0, 0, 1), "reach", 1, 50, -50);
        Edge.dueEach(widest(), Edge.answers(2, 32000, 204800, 1), "reach", 15, 100, 100);
    }

    private static void wholeOnTheRim() {
        Edge.says("III b", "WHOLE places (x, y whole): on the HULL's rim (in a line: on it; one SPOT: 1),");
        due(Edge.of("a7,7;a7,7;"), 1, "whole", 1, 0);
        due(Edge.of("a0,0;a1,0;"), 2, "whole", 1, 0);
        due(Edge.of("a0,0;a1,7;"), 2, "whole", 1, 0);
        due(Edge.of("a0,0;a4,6;"), 3, "whole", 1, 0);
        due(Edge.of("a0,9;a0,-9;a0,0;"), 19, "whole", 1, 0);
        due(Edge.of("a0,9;a9,0;"), 10, "whole", 1, 0);
        due(Edge.row(40), 40, "whole", 1, 0);
        due(Edge.of("a0,0;a1,0;a0,1;"), 3, "whole", 1, 0);
        due(Edge.of("a0,0;a4,0;a0,3;a1,1;"), 8, "whole", 1, 0);
        due(Forty.corners(), 40, "whole", 1, 0);
        due(widest(), 1280, "whole", 15, 0);
    }

    private static void wholeWithin() {
        Edge.says("III b", "within it (not on the rim).");
        due(Edge.of("a7,7;"), 0, "whole", 1, 1);
        due(Edge.of("a0,0;a4,6;"), 0, "whole", 1, 1);
        due(Edge.row(40), 0, "whole", 1, 1);
        due(Edge.of("a0,0;a1,0;a0,1;"), 0, "whole", 1, 1);
        due(Edge.of("a0,0;a2,1;a1,2;"), 1, "whole", 1, 1);
        due(Edge.of("a0,0;a4,0;a0,3;"), 3, "whole", 1, 1);
        due(Edge.of(SQUARE), 25, "whole", 1, 1);
        due(widest(), 319 * 319, "whole", 15, 1);
    }

    private static void seenSides() {
        Edge.says("III b", "SEEN from a place (SPOTS not in one line): sides of the HULL of which it lies to the right (going round from corner to corner): how many;");
        for (String text : new String[] {"a5,5;", "a5,5;a6,7;", "a0,0;a1,0;a2,0;", "a0,0;a1,1;a5,5;"}) due(Edge.of(text), NONE, "sees", 1, 0, 9, 0);
        due(Edge.of("a0,0;a1,0;a0,1;"), 1, "sees", 1, 1, 1, 0);
        due(Edge.of("a0,0;a1,0;a0,1;"), 0, "sees", 1, 0, 0, 0);
        TightRings x = Edge.of(SQUARE);
        // on the rim, within, at a corner; a step without; in line with a side
        for (int[] place : new int[][] {{6, 3}, {3, 0}, {3, 3}, {6, 6}, {0, 0}}) due(x, 0, "sees", 1, place[0], place[1], 0);
        for (int[] place : new int[][] {{7, 3}, {3, -1}, {9, 6}, {-9, 0}, {6, 7}, {0, -1}}) due(x, 1, "sees", 1, place[0], place[1], 0);
        for (int[] place : new int[][] {{7, 7}, {-1, -1}, {300, -300}, {-300, 300}}) due(x, 2, "sees", 1, place[0], place[1], 0);
        // of three, two at most; in line with one of them, the other alone
        TightRings three = Edge.of("a0,0;a9,0;a0,9;");
        due(three, 2, "sees", 1, 100, -1, 0);
        due(three, 1, "sees", 1, 100, 0, 0);
        // from far above the forty, all sides that go to the left: the last twenty but the one straight down
        TightRings forty = Forty.corners();
        due(forty, 19, "sees", 1, -82, 300, 0);
    }

    private static void seenCorners() {
        Edge.says("III b", "the corner at which the first such side begins, that at which the last one ends (they are side by side; NONE: none is).");
        TightRings x = Edge.of(SQUARE);
        Edge.dueEach(x, Edge.answers(1, 0, 1), "sees", 1, 3, -1);
        Edge.dueEach(x, Edge.answers(1, 1, 2), "sees", 1, 7, 3);
        Edge.dueEach(x, Edge.answers(1, 2, 3), "sees", 1, 3, 7);
        Edge.dueEach(x, Edge.answers(1, 3, 0), "sees", 1, -1, 3);
        Edge.dueEach(x, Edge.answers(2, 0, 2), "sees", 1, 7, -1);
        Edge.dueEach(x, Edge.answers(2, 1, 3), "sees", 1, 7, 7);
        Edge.dueEach(x, Edge.answers(2, 2, 0), "sees", 1, -1, 7);
        Edge.dueEach(x, Edge.answers(2, 3, 1), "sees", 1, -1, -1);
        Edge.dueEach(x, Edge.answers(0, NONE, NONE), "sees", 1, 3, 3);
        Edge.dueEach(x, Edge.answers(0, NONE, NONE), "sees", 1, 6, 6);
        // far from (0, 0)
        TightRings far = Edge.of("a50,50;a60,50;a50,60;");
        Edge.dueEach(far, Edge.answers(1, 0, 1), "sees", 1, 55, 45);
        Edge.dueEach(far, Edge.answers(1, 1, 2), "sees", 1, 60, 60);
        Edge.dueEach(far, Edge.answers(1, 2, 0), "sees", 1, 45, 55);
        Edge.dueEach(far, Edge.answers(0, NONE, NONE), "sees", 1, 52, 52);
        // the least ones, from a step beyond
        Edge.dueEach(Edge.of("a0,0;a1,0;a0,1;"), Edge.answers(1, 1, 2), "sees", 1, 1, 1);
        TightRings least = Edge.of("a0,0;a1,0;a1,1;a0,1;");
        Edge.dueEach(least, Edge.answers(2, 3, 1), "sees", 1, -1, -1);
        Edge.dueEach(least, Edge.answers(2, 0, 2), "sees", 1, 2, -1);
        Edge.dueEach(least, Edge.answers(1, 3, 0), "sees", 1, -1, 0);
        Edge.dueEach(least, Edge.answers(1, 0, 1), "sees", 1, 1, -1);
    }

    private static void heaviestOfSets() {
        Edge.says("III b", "HEAVIEST: of SETS of one HEAP (or of two HEAPS) that have SPOTS the one of the greatest SIZE,");
        // SIZES 0, 4, 9 and 1; of two HEAPS d and a lie farthest apart
        TightRings x = Edge.of("a0,0;b0,0;b4,0;c0,0;c0,6;d50,0;d52,0;");
        due(x, 4, "heaviest", 0);
        due(x, 12, "heaviest", 1);
        due(x, 1, "gone", 3);
        due(x, 2, "heaviest", 0);
        due(x, 1, "gone", 2);
        due(x, 8, "heaviest", 0);
        due(Edge.of("d1,1;"), 8, "heaviest", 0);
        due(Edge.of("d1,1;"), 9, "heaviest", 1);
        due(Edge.of("a1,1;"), 1, "heaviest", 0);
        due(Edge.of("a1,1;"), 3, "heaviest", 1);
        // more than two HEAPS together, or one of them alone, are none of these
        due(Edge.of("a0,0;b9,0;c0,9;d9,9;"), 6, "heaviest", 1);
        // as it is at TICK
        TightRings later = Edge.of("a0,0;a9,0;b0,0;c-1,0;pb3,0;");
        due(later, 1, "heaviest", 0);
        due(later, 0, "tick", 20);
        due(later, 6, "heaviest", 1);
    }

    private static void heaviestOfLikeOnes() {
        Edge.says("III b", "of like ones the least as bits.");
        due(Edge.of("b1,1;c2,2;"), 2, "heaviest", 0);
        due(Edge.of("a0,0;a2,0;d5,5;d5,7;"), 1, "heaviest", 0);
        due(Edge.of("c0,0;c2,0;d5,5;d5,7;"), 4, "heaviest", 0);
        due(Edge.of("a0,0;b9,0;c0,0;d9,0;"), 3, "heaviest", 1);
        due(Edge.of("a0,0;b0,0;c9,0;d9,0;"), 5, "heaviest", 1);
        due(Edge.of("a5,5;b5,5;c5,5;d5,5;"), 3, "heaviest", 1);
        // both 5/2
        due(Edge.of("b0,0;b1,3;d0,0;d3,1;"), 2, "heaviest", 0);
    }

    private static void deepSides() {
        Edge.says("III b", "DEEP lies a place: of all lines through it, and both sides of each, the fewest SPOTS on that side");
        TightRings x = Edge.of(SQUARE);
        due(x, 3, "deep", 1, 3, 3);
        due(x, 1, "deep", 1, 0, 0);
        due(x, 1, "deep", 1, 1, 3);
        due(x, 0, "deep", 1, 7, 7);
        due(x, 0, "deep", 1, 7, 6);
        due(x, 0, "deep", 1, -1, 3);
        due(Edge.of("a5,5;a5,5;"), 1, "deep", 1, 5, 5);
        due(Edge.of("a5,5;a5,5;"), 0, "deep", 1, 5, 6);
        TightRings row = Edge.row(40);
        long[] want = {1, 2, 20, 20, 2, 1};
        int[] places = {0, 1, 19, 20, 38, 39};
        for (int i = 0; i < 6; i++) due(row, want[i], "deep", 1, places[i], 0);
        due(row, 0, "deep", 1, 40, 0);
        due(row, 0, "deep", 1, 20, 1);
        due(Forty.corners(), 1, "deep", 1, -100, Forty.places()[0][1]);
        // a narrow three about (5, 7), that lies a step beside each side
        TightRings three = Edge.of("a6,7;a6,8;a3,6;");
        due(three, 1, "deep", 1, 5, 7);
        due(three, 0, "deep", 1, 5, 8);
        due(three, 0, "deep", 1, 4, 7);
        // two threes about (20, -30), one within the other
        TightRings six = Edge.of("a20,-20;a10,-35;a31,-36;a21,-27;a18,-32;a23,-31;");
        due(six, 2, "deep", 1, 20, -30);
        due(six, 1, "deep", 1, 20, -24);
        due(six, 2, "deep", 1, 18, -32);
        due(six, 0, "deep", 1, 14, -23);
    }

    private static void deepTurned() {
        Edge.says("III b", "(on the line, too; so a line may always be turned a little).");
        // on a side of the square, between its corners: those of the side go to unlike sides
        due(Edge.of(SQUARE), 1, "deep", 1, 3, 0);
        due(Edge.of("a0,0;a1,0;a2,0;a3,0;"), 2, "deep", 1, 1, 0);
        due(Edge.of("a0,0;a1,0;a3,0;a4,0;"), 2, "deep", 1, 2, 0);
        // crosswise through the middle, with and without a SPOT there
        due(Edge.of("a-2,0;a2,0;a0,2;a0,-2;"), 2, "deep", 1, 0, 0);
        due(Edge.of("a-2,0;a2,0;a0,2;a0,-2;a0,0;"), 3, "deep", 1, 0, 0);
        due(Edge.of("a-2,0;a2,0;a0,2;"), 1, "deep", 1, 0, 0);
    }

    private static void changesOfTicks() {
        Edge.says("III b", "CHANGES: of TICKS 1 .. 20 how many have other TIGHT POINTS than the TICK ahead (all else as it is).");
        // unlike at TICK 1, at TICK 20, at both; at TICK 21 none asks
        TightRings first = Edge.of("a0,0;b0,0;pb1,0;");
        TightRings last = Edge.of("a0,0;b20,0;pb-1,0;");
        TightRings after = Edge.of("a0,0;b21,0;pb-1,0;");
        TightRings both = Edge.of("a0,0;b0,0;c20,0;d20,9;pb1,0;");
        for (int tick : new int[] {0, 1, 20}) {
            Edge.ask(first, "tick", tick);
            Edge.ask(last, "tick", tick);
            Edge.ask(after, "tick", tick);
            due(first, 1, "changes", 3);
            due(last, 1, "changes", 3);
            due(after, 0, "changes", 3);
            due(first, tick, "is", 1);
        }
        // 0 2 till b comes to c at TICK 20 (1 stays within); then the same: at one SPOT the least number is 1
        due(both, 1, "changes", 7);
        // the same POINTS at other places are no change
        due(Edge.of("a0,0;b9,0;pb3,0;pa-3,-2;"), 0, "changes", 3);
        due(Edge.of("a0,0;a9,0;a3,3;pa3,1;"), 0, "changes", 1);
        // at one SPOT at TICK 2 alone: unlike there, and behind it
        due(Edge.of("a2,0;b0,0;pb1,0;"), 2, "changes", 3);
        // the least of two alone is another one; the greater one alone; the last of three alone, at TICKS 3 and 4, then two at 7
        due(Edge.of("b0,0;a10,0;a100,0;pb1,0;"), 1, "changes", 3);
        due(Edge.of("a0,0;a100,0;b90,0;pb1,0;"), 1, "changes", 3);
        due(Edge.of("a-4,-3;a4,-3;a0,5;b3,5;pb-1,0;"), 3, "changes", 3);
        // two, three, two of them: b goes up through the circle of a's
        due(Edge.of("a-5,0;a5,0;b0,4;pb0,1;"), 1, "changes", 3);
        due(Edge.of("a-5,0;a5,0;b0,-6;pb0,1;"), 2, "changes", 3);
    }

    // ---- Promises

    private static void worse() {
        Edge.says("33", "WORSE by a place (-150 to 150 each): SIZE above (what 0), below (1), how many of the TIGHT (2).");
        TightRings x = Edge.frame();
        for (int what = 0; what < 3; what++) dueFar(x, 150, NONE, "worse", 1, what);
        Edge.dueEach(x, Edge.answers(169, 4, 1), "worse", 1, 0, -10);
        Edge.dueEach(x, Edge.answers(185, 4, 1), "worse", 15, 0, -10);
        // from (150, 0) to (0, 3)
        Edge.dueEach(x, Edge.answers(22509, 4, 1), "worse", 1, 150, 0);
    }

    private static void worseForOthers() {
        Edge.says("33", "NONE for others, without SPOTS.");
        TightRings x = Edge.frame();
        Edge.dueNoWhat(x, NONE, 3, "worse", 1, 0, 0);
        for (int what = 0; what < 3; what++) {
            Edge.dueNoSet(x, NONE, "worse", 0, 0, what);
            due(new TightRings(), NONE, "worse", 1, 0, 0, what);
        }
    }

    private static void calm() {
        Edge.says("34", "CALM: the TICK (what 0), its SIZE above (1), below (2).");
        TightRings x = Edge.frame();
        Edge.dueEach(x, Edge.answers(0, 25, 4), "calm", 1);
        Edge.dueEach(x, Edge.answers(0, 25, 4), "calm", 15);
        Edge.dueEach(x, Edge.answers(0, 0, 1), "calm", 2);
        due(x, 1, "pace", 1, -1, -1);
        // b comes to (1, 0) at TICK 3 and is within till then: the first one counts
        Edge.dueEach(x, Edge.answers(0, 25, 4), "calm", 15);
    }

    private static void calmForOthers() {
        Edge.says("34", "NONE for others, without SPOTS.");
        TightRings x = Edge.frame();
        Edge.dueNoWhat(x, NONE, 3, "calm", 1);
        for (int what = 0; what < 3; what++) {
            Edge.dueNoSet(x, NONE, "calm", what);
            due(new TightRings(), NONE, "calm", 1, what);
        }
    }

    private static void reach() {
        Edge.says("35", "REACH along x, y: the POINT of that corner (what 0), the number (1), how wide squared above (2), below (3).");
        TightRings x = Edge.frame();
        Edge.dueEach(x, Edge.answers(1, 4, 16, 1), "reach", 1, 1, 0);
        Edge.dueEach(x, Edge.answers(1, 4, 16, 1), "reach", 15, 1, 0);
        Edge.dueEach(x, Edge.answers(3, 11, 121, 5), "reach", 15, 2, 1);
    }

    private static void reachForOthers() {
        Edge.says("35", "-1000 for others, without SPOTS (-1000 may be the number, too).");
        TightRings x = Edge.frame();
        Edge.dueNoWhat(x, OTHER, 4, "reach", 1, 1, 0);
        for (int what = 0; what < 4; what++) {
            dueFarRefused(x, what);
            due(x, OTHER, "reach", 1, 0, 0, what);
            Edge.dueNoSet(x, OTHER, "reach", 1, 0, what);
            due(new TightRings(), OTHER, "reach", 1, 1, 0, what);
        }
        Edge.dueEach(Edge.of("a-10,0;"), Edge.answers(0, -1000, 0, 1), "reach", 1, 100, 0);
    }

    private static void dueFarRefused(TightRings x, int what) {
        for (int[] sign : SIGNS) due(x, OTHER, "reach", 1, 101 * sign[0], 101 * sign[1], what);
    }

    private static void whole() {
        Edge.says("36", "WHOLE places on the rim (what 0), within (1).");
        TightRings x = Edge.frame();
        Edge.dueEach(x, Edge.answers(8, 3), "whole", 1);
        Edge.dueEach(x, Edge.answers(1, 0), "whole", 2);
        Edge.dueEach(x, Edge.answers(14, 6), "whole", 15);
    }

    private static void wholeForOthers() {
        Edge.says("36", "NONE for others, without SPOTS.");
        TightRings x = Edge.frame();
        Edge.dueNoWhat(x, NONE, 2, "whole", 1);
        for (int what = 0; what < 2; what++) {
            Edge.dueNoSet(x, NONE, "whole", what);
            due(new TightRings(), NONE, "whole", 1, what);
        }
    }

    private static void sees() {
        Edge.says("37", "SEEN from a place (-300 to 300 each): how many sides (what 0), the POINT of the corner at which they begin (1), at which they end (2).");
        TightRings x = Edge.frame();
        for (int what = 0; what < 3; what++) dueFar(x, 300, NONE, "sees", 1, what);
        Edge.dueEach(x, Edge.answers(1, 1, 2), "sees", 1, 5, 5);
        Edge.dueEach(x, Edge.answers(2, 1, 2), "sees", 15, 5, 5);
        Edge.dueEach(x, Edge.answers(1, 1, 2), "sees", 1, 300, 0);
        Edge.dueEach(x, Edge.answers(2, 2, 1), "sees", 1, -300, -300);
    }

    private static void seesForOthers() {
        Edge.says("37", "NONE for others, SPOTS in one line.");
        TightRings x = Edge.frame();
        Edge.dueNoWhat(x, NONE, 3, "sees", 1, 9, 9);
        for (int what = 0; what < 3; what++) {
            Edge.dueNoSet(x, NONE, "sees", 9, 9, what);
            due(x, NONE, "sees", 2, 9, 9, what);
            due(Edge.row(40), NONE, "sees", 1, 9, 9, what);
            due(new TightRings(), NONE, "sees", 1, 9, 9, what);
        }
    }

    private static void heaviest() {
        Edge.says("38", "HEAVIEST of one HEAP (what 0), of two (1): the SET.");
        TightRings x = Edge.frame();
        due(x, 1, "heaviest", 0);
        due(x, 3, "heaviest", 1);
        due(Edge.of("d1,1;d2,2;c9,9;"), 8, "heaviest", 0);
        due(Edge.of("d1,1;d2,2;c9,9;"), 12, "heaviest", 1);
    }

    private static void heaviestForOthers() {
        Edge.says("38", "NONE: for others, without POINTS.");
        TightRings x = Edge.frame();
        Edge.dueNoWhat(x, NONE, 2, "heaviest");
        for (int what = 0; what < 2; what++) due(new TightRings(), NONE, "heaviest", what);
        TightRings last = Edge.of("c1,1;");
        due(last, 4, "heaviest", 0);
        due(last, 1, "gone", 0);
        due(last, NONE, "heaviest", 0);
        due(last, NONE, "heaviest", 1);
    }

    private static void deep() {
        Edge.says("39", "How DEEP a place lies (-300 to 300 each).");
        TightRings x = Edge.frame();
        dueFar(x, 300, NONE, "deep", 1);
        due(x, 1, "deep", 1, 1, 1);
        due(x, 1, "deep", 15, 1, 1);
        due(x, 1, "deep", 2, 4, 3);
        due(x, 0, "deep", 2, 300, -300);
    }

    private static void deepForOthers() {
        Edge.says("39", "NONE for others, without SPOTS.");
        Edge.dueNoSet(Edge.frame(), NONE, "deep", 1, 1);
        due(new TightRings(), NONE, "deep", 1, 0, 0);
    }

    private static void meetsAt() {
        Edge.says("40", "The first TICK of all (0 to 20) at which two SETS MEET.");
        TightRings x = Edge.of("a0,0;b0,0;c20,0;d10,0;pc-1,0;pb0,3;pd-1,0;");
        for (int tick : new int[] {0, 7, 20}) {
            Edge.ask(x, "tick", tick);
            due(x, 0, "meetsAt", 1, 2);
            due(x, 20, "meetsAt", 1, 4);
            due(x, 20, "meetsAt", 4, 1);
            // they meet at TICK 10 alone
            due(x, 10, "meetsAt", 1, 8);
            due(x, 0, "meetsAt", 8, 8);
            due(x, tick, "is", 1);
        }
    }

    private static void meetsAtNone() {
        Edge.says("40", "NONE: none, others, one without SPOTS.");
        TightRings x = Edge.frame();
        due(x, NONE, "meetsAt", 1, 2);
        Edge.dueNoSet(x, NONE, "meetsAt", 1);
        for (int set : new int[] {0, 16, 17, -1, LOW, HIGH, 4, 8, 12}) {
            due(x, NONE, "meetsAt", 1, set);
            due(x, NONE, "meetsAt", set, set);
        }
        due(Edge.of("a0,0;b21,0;pb-1,0;"), NONE, "meetsAt", 1, 2);
        due(new TightRings(), NONE, "meetsAt", 1, 1);
    }

    private static void changes() {
        Edge.says("41", "CHANGES.");
        TightRings x = Edge.frame();
        due(x, 0, "changes", 1);
        due(x, 0, "changes", 2);
        due(x, 0, "changes", 15);
        due(x, 1, "pace", 1, -3, 0);
        due(x, 0, "changes", 2);
        // 0 3 at TICK 0; b at (1, 3): 1 2, (-2, 3): 1 3, and so on to the left
        due(x, 2, "changes", 3);
    }

    private static void changesForOthers() {
        Edge.says("41", "NONE for others, without SPOTS.");
        Edge.dueNoSet(Edge.frame(), NONE, "changes");
        due(new TightRings(), NONE, "changes", 1);
    }

    private static void dueWritten(TightRings x, int set, String text) {
        due(x, text.length(), "write", set);
        for (int k = 0; k < text.length(); k++) due(x, text.charAt(k), "octet", k);
        due(x, NONE, "octet", text.length());
    }

    private static void write() {
        Edge.says("42", "The HULL is written: for each corner x , y ; : how many bytes.");
        TightRings x = Edge.frame();
        dueWritten(x, 1, "0,0;4,0;0,3;");
        dueWritten(x, 2, "4,3;");
        dueWritten(x, 15, "0,0;4,0;4,3;0,3;");
        dueWritten(Edge.of("a0,0;a5,5;a9,9;"), 1, "0,0;9,9;");
        dueWritten(Edge.of("a-100,99;a-99,-9;a9,-100;a100,10;"), 1, "-100,99;-99,-9;9,-100;100,10;");
        dueWritten(Edge.of("a-99,100;a-1,-1;a1,0;a99,0;"), 1, "-99,100;-1,-1;99,0;");
        dueWritten(widest(), 15, "-160,-160;160,-160;160,160;-160,160;");
        // the longest: forty corners with ten bytes each
        TightRings forty = Forty.corners();
        due(forty, 1, "pace", 0, -3, -3);
        due(forty, 0, "tick", 20);
        StringBuilder text = new StringBuilder();
        for (int[] place : Forty.places()) text.append(place[0] - 60).append(',').append(place[1] - 60).append(';');
        due(forty, text.length() == 400 ? 20 : 0, "is", 1);
        dueWritten(forty, 1, text.toString());
    }

    private static void writeForOthers() {
        Edge.says("42", "NONE for others, without SPOTS.");
        TightRings x = Edge.frame();
        Edge.dueNoSet(x, NONE, "write");
        due(x, NONE, "octet", 0);
        due(x, 4, "write", 2);
        Edge.dueNoSet(x, NONE, "write");
        due(x, ';', "octet", 3);
        due(x, NONE, "octet", 4);
        due(new TightRings(), NONE, "write", 1);
    }

    private static void octet() {
        Edge.says("43", "Byte k of what was written latest.");
        TightRings x = Edge.of("a-7,8;b1,2;");
        due(x, 5, "write", 1);
        due(x, '-', "octet", 0);
        due(x, ';', "octet", 4);
        due(x, 4, "write", 2);
        due(x, '1', "octet", 0);
        due(x, ';', "octet", 3);
        due(x, NONE, "octet", 4);
        // it stays as it was written
        due(x, 1, "moved", 1, 9, 9);
        due(x, 1, "gone", 1);
        due(x, 2, "back");
        due(x, NONE, "write", 4);
        due(x, NONE, "write", 16);
        due(x, '1', "octet", 0);
        due(x, '2', "octet", 2);
    }

    private static void octetNone() {
        Edge.says("43", "NONE: there is none.");
        TightRings x = Edge.of("a-7,8;");
        for (int k : new int[] {0, 1, -1, LOW, HIGH}) due(x, NONE, "octet", k);
        due(x, 5, "write", 1);
        for (int k : new int[] {5, 6, 399, 400, 401, -1, LOW, HIGH}) due(x, NONE, "octet", k);
        due(new TightRings(), NONE, "octet", 0);
    }
}
