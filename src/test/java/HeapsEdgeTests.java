/** Terms I and IV, promises 1 to 15: each sentence that names a bound, at the last value that is taken and the first refused. */
public final class HeapsEdgeTests {
    private static final int NONE = Edge.NONE;
    private static final int OTHER = Edge.OTHER;
    private static final int LOW = Edge.LOW;
    private static final int HIGH = Edge.HIGH;
    /** Beside 0 .. 39 on either side, and where a careless shift or sum would come back. */
    private static final int[] NO_NUMBERS = {-1, 40, 63, 64, -40, 256, LOW, HIGH};
    private static final int[][] PLACES_TAKEN = {{100, 0}, {-100, 0}, {0, 100}, {0, -100}, {100, -100}, {-100, 100}};
    private static final int[][] PLACES_REFUSED = {{101, 0}, {-101, 0}, {0, 101}, {0, -101}, {LOW, 0}, {0, LOW}, {HIGH, 0}, {0, HIGH}};
    private static final int[][] PACES_TAKEN = {{3, 0}, {-3, 0}, {0, 3}, {0, -3}, {3, -3}};
    private static final int[][] PACES_REFUSED = {{4, 0}, {-4, 0}, {0, 4}, {0, -4}, {LOW, 0}, {0, LOW}, {HIGH, 0}, {0, HIGH}};

    public static void main(String[] args) throws Exception {
        numbers();
        theLeastThatIsFree();
        places();
        heaps();
        paces();
        ticks();
        standing();
        items();
        pointItems();
        paceItems();
        digits();
        blanks();
        firstWrongByte();
        endsTooEarly();
        numberNotAsTold();
        fourthDigit();
        noNumberIsLeft();
        allOrNothing();
        sets();
        unlikeSpots();
        leastNumberOfASpot();
        fractions();
        kindsOfDeeds();
        twentyDeeds();
        latestDeedFirst();
        takenBack();
        aNewObject();
        feed();
        feedTooMuch();
        end();
        endRefused();
        text();
        textWithAFault();
        fault();
        faultAheadOfAny();
        put();
        putRefused();
        gone();
        moved();
        movedRefused();
        pace();
        paceRefused();
        tick();
        tickRefused();
        back();
        backOfNone();
        is();
        isForOthers();
        point();
        pointForOthers();
        spots();
        noSuchSet();
        spot();
        spotForOthers();
        Edge.end("I", "IV", "1", "2", "3", "4", "5", "6", "7", "8", "9", "10", "11", "12", "13", "14", "15");
    }

    private static void says(String part, String words) {
        Edge.says(part, words);
    }

    private static void due(TightRings x, long want, String call, long... args) {
        Edge.due(x, want, call, args);
    }

    /** Bytes that are THE TEXT and change no POINT: so many PACES of 0, 0 in so many bytes (6 at least, none of 9 .. 11). */
    private static String paceText(int bytes) {
        StringBuilder text = new StringBuilder();
        while (bytes - text.length() >= 12) text.append("pa0,0;");
        String[] last = {"pa0,0;", "pa-0,0;", "pa-0,-0;", "pa00,-0;", "pa00,-00;", "pa-00,-00;"};
        String[] lasts = {"", "", "", "", "", "", last[0], last[1], last[2], "pa00,-00;", "pa-00,-00;", "pa-00,-000;"};
        return text.append(lasts[bytes - text.length()]).toString();
    }

    private static int itemsOf(String text) {
        return (int) text.chars().filter(sign -> sign == ';').count();
    }

    // ---- Terms I

    private static void numbers() {
        says("I", "POINTS: numbers 0 .. 39");
        TightRings x = Edge.row(40);
        due(x, NONE, "put", 0, 0, 0);
        due(x, 40, "is", 0);
        due(x, 0, "point", 0, 0);
        due(x, 39, "point", 39, 0);
        for (int k : NO_NUMBERS) {
            due(x, OTHER, "point", k, 0);
            due(x, 0, "moved", k, 0, 0);
            due(x, 0, "gone", k);
        }
        due(x, 40, "is", 0);
        due(x, 1, "moved", 39, 1, 2);
        due(x, 2, "point", 39, 1);
        due(x, 1, "gone", 39);
        due(x, 1, "gone", 0);
        due(x, 38, "is", 0);
    }

    private static void theLeastThatIsFree() {
        says("I", "(a new one takes the least that is free)");
        TightRings x = Edge.row(40);
        for (int k : new int[] {39, 20, 0, 21}) due(x, 1, "gone", k);
        due(x, 0, "put", 9, 9, 1);
        Edge.dueText(x, 2, "b20,0;b21,0;");
        due(x, 20, "point", 20, 0);
        due(x, 21, "point", 21, 0);
        due(x, 39, "put", 9, 9, 1);
        due(x, NONE, "put", 9, 9, 1);
        due(x, 38, "point", 38, 0);
        due(x, 0, "point", 38, 2);
    }

    private static void places() {
        says("I", "each x, y (-100 to 100)");
        for (int[] place : PLACES_TAKEN) {
            TightRings x = Edge.of("a0,0;a" + place[0] + "," + place[1] + ";");
            due(x, 2, "put", place[0], place[1], 0);
            due(x, 1, "moved", 0, place[0], place[1]);
            for (int k = 0; k < 3; k++) {
                due(x, place[0], "point", k, 0);
                due(x, place[1], "point", k, 1);
            }
        }
        for (int[] place : PLACES_REFUSED) {
            TightRings x = Edge.of("a5,6;");
            due(x, NONE, "put", place[0], place[1], 0);
            due(x, 0, "moved", 0, place[0], place[1]);
            due(x, 1, "is", 0);
            due(x, 5, "point", 0, 0);
            due(x, 6, "point", 0, 1);
        }
        for (String number : new String[] {"101", "-101", "999", "-999"}) {
            Edge.dueFault(new TightRings(), 1, "a" + number + ",0;");
            Edge.dueFault(new TightRings(), 3, "a0," + number + ";");
        }
    }

    private static void heaps() {
        says("I", "and of a HEAP 0 .. 3; a HEAP has");
        TightRings x = new TightRings();
        for (int heap = 0; heap < 4; heap++) {
            due(x, heap, "put", 0, 0, heap);
            due(x, heap, "point", heap, 2);
            due(x, 1, "pace", heap, 1, 1);
        }
        for (int heap : new int[] {-1, 4, 5, -4, 32, LOW, HIGH}) {
            due(x, NONE, "put", 0, 0, heap);
            due(x, 0, "pace", heap, 0, 0);
        }
        due(x, 4, "is", 0);
        due(x, 8, "is", 2);
        due(x, 0, "tick", 1);
        for (int k = 0; k < 4; k++) due(x, 1, "point", k, 3);
    }

    private static void paces() {
        says("I", "a PACE dx, dy (-3 to 3; 0 at first).");
        TightRings still = Edge.of("a1,1;b2,2;c3,3;d4,4;");
        due(still, 0, "tick", 20);
        for (int k = 0; k < 4; k++) {
            due(still, k + 1, "point", k, 3);
            due(still, k + 1, "point", k, 4);
        }
        for (int[] pace : PACES_TAKEN) {
            TightRings x = Edge.of("c0,0;pd" + pace[0] + "," + pace[1] + ";d0,0;");
            due(x, 1, "pace", 2, pace[0], pace[1]);
            due(x, 0, "tick", 1);
            for (int k = 0; k < 2; k++) {
                due(x, pace[0], "point", k, 3);
                due(x, pace[1], "point", k, 4);
            }
        }
        for (int[] pace : PACES_REFUSED) {
            TightRings x = Edge.of("c0,0;pc1,2;");
            due(x, 0, "pace", 2, pace[0], pace[1]);
            due(x, 0, "tick", 1);
            due(x, 1, "point", 0, 3);
            due(x, 2, "point", 0, 4);
        }
        for (String number : new String[] {"4", "-4", "10", "-999"}) {
            Edge.dueFault(new TightRings(), 2, "pa" + number + ",0;");
            Edge.dueFault(new TightRings(), 4, "pa0," + number + ";");
        }
    }

    private static void ticks() {
        says("I", "TICK 0 to 20 (0 at first)");
        TightRings x = new TightRings();
        due(x, 0, "is", 1);
        due(x, 0, "tick", 20);
        due(x, 20, "is", 1);
        for (int t : new int[] {21, -1, LOW, HIGH}) due(x, NONE, "tick", t);
        due(x, 20, "is", 1);
        due(x, 20, "tick", 0);
        due(x, 0, "is", 1);
    }

    private static void standing() {
        says("I", "a POINT STANDS at x + dx * TICK, y + dy * TICK.");
        TightRings x = Edge.of("a100,-100;pa3,-3;b-100,100;pb-3,3;");
        for (int t : new int[] {0, 1, 19, 20}) {
            Edge.ask(x, "tick", t);
            due(x, 100 + 3 * t, "point", 0, 3);
            due(x, -100 - 3 * t, "point", 0, 4);
            due(x, -100 - 3 * t, "point", 1, 3);
            due(x, 100 + 3 * t, "point", 1, 4);
            due(x, -100 - 3 * t, "spot", 3, 0, 0);
            due(x, 100 + 3 * t, "spot", 3, 0, 1);
        }
        due(x, 100, "point", 0, 0);
        due(x, -100, "point", 0, 1);
    }

    private static void items() {
        says("I", "THE TEXT: ITEMS, each with ; behind:");
        Edge.dueText(new TightRings(), 0, "");
        Edge.dueText(new TightRings(), 1, "a1,1;");
        Edge.dueText(new TightRings(), 2, "a1,1;a1,1;");
        Edge.dueFault(new TightRings(), 4, "a1,1");
        Edge.dueFault(new TightRings(), 9, "a1,1;a1,1");
        Edge.dueFault(new TightRings(), 0, ";");
        Edge.dueFault(new TightRings(), 5, "a1,1;;");
        Edge.dueFault(new TightRings(), 4, "a1,1:");
        Edge.dueFault(new TightRings(), 4, "a1,1<");
        Edge.dueFault(new TightRings(), 4, "a1,1a1,1;");
        String full = paceText(400);
        Edge.dueText(new TightRings(), itemsOf(full), full);
    }

    private static void pointItems() {
        says("I", "a HEAP (a .. d), x , y : one more POINT;");
        TightRings x = Edge.of("d9,8;c7,6;b5,4;a3,2;");
        for (int k = 0; k < 4; k++) {
            due(x, 9 - 2 * k, "point", k, 0);
            due(x, 8 - 2 * k, "point", k, 1);
            due(x, 3 - k, "point", k, 2);
        }
        for (String sign : new String[] {"`", "e", "A", "D", "@", "\u00e1", "\0", "0"}) Edge.dueFault(x, 0, sign + "1,1;");
        Edge.dueFault(x, 2, "a1+1;");
        Edge.dueFault(x, 2, "a1-1;");
        Edge.dueFault(x, 2, "a1;1;");
        Edge.dueFault(x, 2, "a1.1;");
        Edge.dueText(x, 2, "a3,2;a3,2;");
        due(x, 6, "is", 0);
    }

    private static void paceItems() {
        says("I", "p, a HEAP, dx , dy : its PACE.");
        TightRings x = Edge.of("a0,0;b0,0;c0,0;d0,0;pa1,0;pd0,1;pb-1,0;pc0,-1;");
        due(x, 4, "is", 0);
        due(x, 0, "tick", 1);
        long[] wantX = {1, -1, 0, 0};
        long[] wantY = {0, 0, -1, 1};
        for (int k = 0; k < 4; k++) {
            due(x, wantX[k], "point", k, 3);
            due(x, wantY[k], "point", k, 4);
        }
        for (String sign : new String[] {"`", "e", "p", "A", "1", ";"}) Edge.dueFault(x, 1, "p" + sign + "1,1;");
        for (String sign : new String[] {"o", "q", "P"}) Edge.dueFault(x, 0, sign + "a1,1;");
        Edge.dueFault(x, 1, "ap1,1;");
        Edge.dueText(x, 2, "pa2,2;pa3,3;");
        due(x, 3, "point", 0, 3);
    }

    private static void digits() {
        says("I", "Numbers: perhaps -, 1 to 3 digits.");
        TightRings x = Edge.of("a7,-7;a07,-07;a007,-007;a-0,0;a000,-000;a19,90;");
        for (int k = 0; k < 3; k++) {
            due(x, 7, "point", k, 0);
            due(x, -7, "point", k, 1);
        }
        for (int k = 3; k < 5; k++) {
            due(x, 0, "point", k, 0);
            due(x, 0, "point", k, 1);
        }
        due(x, 19, "point", 5, 0);
        due(x, 90, "point", 5, 1);
        Edge.dueFault(x, 1, "a,1;");
        Edge.dueFault(x, 3, "a1,;");
        Edge.dueFault(x, 2, "a-,1;");
        Edge.dueFault(x, 4, "a1,-;");
        Edge.dueFault(x, 2, "a--1,1;");
        Edge.dueFault(x, 1, "a+1,1;");
        Edge.dueFault(x, 2, "a1-,1;");
        Edge.dueFault(x, 4, "a0001,1;");
        Edge.dueFault(x, 6, "a1,0001;");
        // the signs beside 0 and 9
        Edge.dueFault(x, 1, "a/,1;");
        Edge.dueFault(x, 1, "a:,1;");
        Edge.dueFault(x, 2, "a1/,1;");
        Edge.dueFault(x, 2, "a1:,1;");
    }

    private static void blanks() {
        says("I", "No blanks.");
        for (String text : new String[] {"a1,-2;", "pa1,-2;"}) {
            for (char blank : new char[] {' ', '\t', '\n', '\0', '\u00a0'}) {
                for (int at = 0; at <= text.length(); at++) {
                    Edge.dueFault(new TightRings(), at, text.substring(0, at) + blank + text.substring(at));
                }
            }
        }
    }

    private static void firstWrongByte() {
        says("I", "FAULT: the first byte with which no such text goes on");
        for (String text : new String[] {"a1,2;", "pa1,2;", "d-10,-20;", "pd-1,-2;"}) {
            for (int at = 0; at < text.length(); at++) {
                for (char sign : new char[] {'x', '\u00ff', '\0'}) {
                    Edge.dueFault(new TightRings(), at, text.substring(0, at) + sign + text.substring(at + 1));
                    Edge.dueFault(new TightRings(), at + 5, "c3,3;" + text.substring(0, at) + sign + "?x");
                }
            }
        }
        Edge.dueFault(new TightRings(), 399, paceText(399) + "x");
    }

    private static void endsTooEarly() {
        says("I", "(its length, if it ends too early)");
        for (String text : new String[] {"a1,2;", "pa1,2;", "d-10,-20;", "pd-1,-2;"}) {
            for (int length = 1; length < text.length(); length++) {
                Edge.dueFault(new TightRings(), length, text.substring(0, length));
                Edge.dueFault(new TightRings(), length + 5, "c3,3;" + text.substring(0, length));
            }
        }
        Edge.dueFault(new TightRings(), 400, paceText(393) + "pa-0,-0");
        Edge.dueFault(new TightRings(), 400, paceText(399) + "a");
    }

    private static void numberNotAsTold() {
        says("I", "a number's first byte (its -) that is not as told");
        Edge.dueText(new TightRings(), 2, "a100,-100;a-100,100;");
        Edge.dueText(new TightRings(), 2, "pa3,-3;pa-3,3;");
        Edge.dueFault(new TightRings(), 1, "a101,0;");
        Edge.dueFault(new TightRings(), 1, "a-101,0;");
        Edge.dueFault(new TightRings(), 3, "a0,101;");
        Edge.dueFault(new TightRings(), 3, "a0,-101;");
        Edge.dueFault(new TightRings(), 6, "a-100,-999;");
        Edge.dueFault(new TightRings(), 2, "pa4,0;");
        Edge.dueFault(new TightRings(), 2, "pa-4,0;");
        Edge.dueFault(new TightRings(), 4, "pa0,4;");
        Edge.dueFault(new TightRings(), 4, "pa0,-4;");
        Edge.dueFault(new TightRings(), 2, "pa100,0;");
        // the first of two, and of what is wrong behind it
        Edge.dueFault(new TightRings(), 1, "a101,101;");
        Edge.dueFault(new TightRings(), 1, "a101;");
        Edge.dueFault(new TightRings(), 1, "a101,x;");
        Edge.dueFault(new TightRings(), 6, "a1,1;a101,0");
    }

    private static void fourthDigit() {
        says("I", "(a fourth digit goes ahead of that: at it)");
        Edge.dueFault(new TightRings(), 4, "a1000,0;");
        Edge.dueFault(new TightRings(), 5, "a-1000,0;");
        Edge.dueFault(new TightRings(), 6, "a0,1000;");
        Edge.dueFault(new TightRings(), 7, "a0,-1000;");
        Edge.dueFault(new TightRings(), 4, "a9999999,0;");
        Edge.dueFault(new TightRings(), 4, "a1010,0;");
        Edge.dueFault(new TightRings(), 4, "a1009,0;");
        Edge.dueFault(new TightRings(), 4, "a0000,0;");
        Edge.dueFault(new TightRings(), 5, "pa4000,0;");
        Edge.dueFault(new TightRings(), 6, "pa-0003,0;");
        Edge.dueFault(new TightRings(), 7, "pa0,9999;");
        Edge.dueFault(new TightRings(), 1, "a101,1000;");
    }

    private static void noNumberIsLeft() {
        says("I", "an ITEM's first byte for whose POINT no number is left.");
        TightRings x = Edge.row(38);
        Edge.dueFault(x, 16, "a1,1;pa1,1;b2,2;c3,3;");
        Edge.dueText(x, 3, "a1,1;pa1,1;b2,2;");
        due(x, 40, "is", 0);
        Edge.dueFault(x, 0, "a1,1;");
        Edge.dueFault(x, 0, "d1,1;");
        Edge.dueFault(x, 6, "pa0,0;a1,1;");
        Edge.dueFault(x, 0, "e1,1;");
        Edge.dueText(x, 2, "pa0,0;pb0,0;");
        due(x, 1, "gone", 0);
        Edge.dueFault(x, 5, "a1,1;a1,1;");
        Edge.dueText(x, 1, "a1,1;");
        StringBuilder many = new StringBuilder();
        for (int k = 0; k < 40; k++) many.append("b").append(k).append(",0;");
        Edge.dueText(new TightRings(), 40, many.toString());
        Edge.dueFault(new TightRings(), many.length(), many + "b0,0;");
    }

    private static void allOrNothing() {
        says("I", "All the text comes, or nothing of it.");
        TightRings x = Edge.of("a1,1;pa1,2;");
        due(x, 0, "tick", 1);
        for (String text : new String[] {"a5,5;pa3,3;b6,6;x", "a5,5;pa3,3;b6,6", "pa3,3;a101,0;", "pa-1,0;a5,5;a1000,0;"}) {
            due(x, NONE, "is", 9);
            Edge.read(x, text);
            due(x, 1, "is", 0);
            due(x, 2, "is", 2);
            due(x, 2, "point", 0, 3);
            due(x, 3, "point", 0, 4);
        }
        Edge.dueText(x, 3, "a5,5;pa3,3;b6,6;");
        due(x, 3, "is", 0);
        due(x, 4, "point", 0, 3);
        due(x, 8, "point", 1, 3);
    }

    private static void sets() {
        says("I", "A SET: POINTS of HEAPS told as bits (1 to 15).");
        // HEAP h has 2 to the h SPOTS, so that each SET has as many as it is
        TightRings x = Edge.of("a0,0;b1,0;b1,1;c2,0;c2,1;c2,2;c2,3;d3,0;d3,1;d3,2;d3,3;d3,4;d3,5;d3,6;d3,7;");
        for (int set = 1; set < 16; set++) due(x, set, "spots", set);
        for (int set : new int[] {0, 16, 17, 31, -1, -16, 257, LOW, LOW + 1, HIGH}) due(x, NONE, "spots", set);
    }

    private static void unlikeSpots() {
        says("I", "SPOTS of it: places where such STAND, unlike ones, by x, then by y;");
        TightRings x = Edge.of("a1,-1;a-1,1;a-1,-1;a1,1;a0,0;a0,0;b0,100;b-100,0;c0,0;");
        due(x, 5, "spots", 1);
        int[] order = {2, 1, 4, 0, 3};
        for (int i = 0; i < 5; i++) due(x, order[i], "spot", 1, i, 2);
        due(x, 7, "spots", 3);
        due(x, 7, "spot", 3, 0, 2);
        due(x, 6, "spot", 3, 4, 2);
        due(x, 7, "spots", 7);
        // where they STAND: b's (0, 100) comes to (0, 98), and with c's PACE its SPOT leaves a's
        Edge.dueText(x, 2, "pb0,-1;pc1,1;");
        due(x, 0, "tick", 2);
        due(x, 98, "spot", 3, 4, 1);
        due(x, 8, "spots", 7);
        due(x, 8, "spot", 7, 7, 2);
        due(x, 0, "spots", 8);
    }

    private static void leastNumberOfASpot() {
        says("I", "of POINTS at one SPOT the one of the least number is the SPOT's.");
        TightRings x = Edge.of("b5,5;a5,5;c5,5;");
        due(x, 1, "spots", 15);
        for (int set = 1; set < 8; set++) due(x, (set & 2) != 0 ? 0 : (set & 1) != 0 ? 1 : 2, "spot", set, 0, 2);
        due(x, 1, "gone", 0);
        due(x, 1, "spot", 7, 0, 2);
        due(x, 0, "put", 5, 5, 3);
        due(x, 0, "spot", 15, 0, 2);
        TightRings full = new TightRings();
        for (int k = 0; k < 40; k++) due(full, k, "put", 3, 4, k % 4);
        due(full, 1, "spots", 15);
        due(full, 3, "spot", 8, 0, 2);
    }

    private static void fractions() {
        says("I", "FRACTIONS are told above and below, in lowest terms, below above 0 (0 as 0 by 1).");
        TightRings one = Edge.of("a0,0;");
        Edge.dueEach(one, Edge.answers(0, 1, 0, 1, 0, 1), "circle", 1);
        Edge.dueEach(one, Edge.answers(0, 1), "fewer", 1, 1);
        Edge.dueEach(one, Edge.answers(0, 1), "worse", 1, 0, 0);
        Edge.dueEach(one, Edge.answers(0, 0, 1), "calm", 1);
        Edge.dueEach(one, Edge.answers(0, 0, 0, 1), "reach", 1, 100, 100);
        TightRings two = Edge.of("a-3,-3;a0,-5;");
        Edge.dueEach(two, Edge.answers(13, 4, -3, 2, -4, 1), "circle", 1);
        Edge.dueEach(two, Edge.answers(0, 1), "two", 1);
        Edge.dueEach(two, Edge.answers(0, 13, 4), "calm", 1);
        // 10 * 0 + 20 * -5 less 10 * -3 + 20 * -3: 10 squared by 500
        Edge.dueEach(two, Edge.answers(0, -90, 1, 5), "reach", 1, 10, 20);
        TightRings three = Edge.of("a-4,-6;a-8,-6;a-6,-3;");
        Edge.dueEach(three, Edge.answers(169, 36, -6, 1, -31, 6), "circle", 1);
        Edge.dueEach(three, Edge.answers(0, 1, 169, 36, 169, 36, -6, 1, -31, 6), "ring", 1);
        // the sides: 4 long and 3 high; 13 squared with twice the area 12
        Edge.dueEach(three, Edge.answers(9, 1), "strip", 1);
        Edge.dueEach(three, Edge.answers(12, 1), "box", 1);
        Edge.dueEach(Edge.of("a0,0;a2,1;a1,3;"), Edge.answers(5, 2), "strip", 1);
        Edge.dueEach(Edge.of("a0,0;a5,1;a1,4;"), Edge.answers(361, 26), "strip", 1);
    }

    // ---- Terms IV

    private static void kindsOfDeeds() {
        says("IV", "DEEDS: put(), gone(), moved(), text(), pace(), tick(), each that was done;");
        TightRings x = new TightRings();
        due(x, 0, "put", 1, 1, 0);
        due(x, 1, "is", 2);
        due(x, 1, "moved", 0, 1, 1);
        due(x, 2, "is", 2);
        due(x, 1, "pace", 0, 0, 0);
        due(x, 3, "is", 2);
        due(x, 0, "tick", 0);
        due(x, 4, "is", 2);
        Edge.dueText(x, 1, "pa0,0;");
        due(x, 5, "is", 2);
        due(x, 1, "gone", 0);
        due(x, 6, "is", 2);
        // none of these was done, or is one
        due(x, NONE, "put", 101, 0, 0);
        due(x, 0, "gone", 0);
        due(x, 0, "moved", 0, 0, 0);
        due(x, 0, "pace", 0, 4, 0);
        due(x, NONE, "tick", 21);
        Edge.dueFault(x, 0, "x");
        due(x, 20, "feed", 0, 0, 0, 0, 0);
        due(x, 5, "end", 5);
        due(x, NONE, "write", 1);
        due(x, 6, "is", 2);
        due(x, 5, "back");
        due(x, 5, "is", 2);
        due(x, 4, "write", 1);
        due(x, 5, "is", 2);
    }

    private static void twentyDeeds() {
        says("IV", "the latest 20 can be taken back, the latest first");
        TightRings x = new TightRings();
        for (int t = 1; t <= 20; t++) {
            due(x, t - 1, "tick", t);
            due(x, t, "is", 2);
        }
        due(x, 20, "tick", 0);
        due(x, 20, "is", 2);
        for (int left = 19; left >= 0; left--) {
            due(x, left, "back");
            due(x, left + 1, "is", 1);
        }
        due(x, NONE, "back");
        due(x, 1, "is", 1);
        TightRings all = new TightRings();
        for (int t = 1; t <= 20; t++) due(all, t - 1, "tick", t);
        for (int left = 19; left >= 0; left--) due(all, left, "back");
        due(all, NONE, "back");
        due(all, 0, "is", 1);
    }

    private static void latestDeedFirst() {
        says("IV", "the latest first (POINTS, PACES, TICK are as ahead of it).");
        TightRings x = Edge.of("a1,1;a2,2;");
        due(x, 1, "gone", 0);
        due(x, 0, "put", 3, 3, 1);
        due(x, 2, "back");
        due(x, OTHER, "point", 0, 0);
        due(x, 1, "back");
        due(x, 1, "point", 0, 0);
        due(x, 0, "point", 0, 2);
        // over the end of the twenty, many times
        for (int round = 0; round < 5; round++) {
            for (int t = 1; t <= 13; t++) due(x, t == 1 && round == 0 ? 0 : t == 1 ? 3 : t - 1, "tick", t);
            for (int t = 12; t >= 3; t--) {
                Edge.ask(x, "back");
                due(x, t, "is", 1);
            }
        }
    }

    private static void takenBack() {
        says("IV", "(POINTS, PACES, TICK are as ahead of it)");
        String[][] deeds = {{"put", "7", "7", "3"}, {"gone", "0"}, {"moved", "1", "50", "50"}, {"pace", "0", "-3", "3"}, {"tick", "20"}};
        TightRings x = Edge.of("a1,2;b3,4;c5,6;pa1,1;pb2,-2;");
        due(x, 0, "tick", 5);
        long[] ahead = told(x);
        for (String[] deed : deeds) {
            done(x, deed);
            Edge.ask(x, "back");
            Edge.same(deed[0], told(x), ahead);
        }
        Edge.dueText(x, 4, "d9,9;pa0,0;pc3,3;d8,8;");
        due(x, 2, "back");
        Edge.same("text", told(x), ahead);
        allTakenBack(deeds);
        // what was fed, the FAULT and what was written are none of these
        due(x, 4, "write", 4);
        Edge.dueFault(x, 1, "ax");
        due(x, 20, "feed", 0, 0, 0, 0, 0);
        due(x, 1, "back");
        due(x, 20, "is", 3);
        due(x, 1, "fault");
        due(x, '5', "octet", 0);
    }

    /** Each kind behind each other kind, then back through all of them. */
    private static void allTakenBack(String[][] deeds) {
        for (int first = 0; first < deeds.length; first++) {
            TightRings x = Edge.of("a1,2;b3,4;c5,6;pa1,1;pb2,-2;");
            due(x, 0, "tick", 5);
            long[][] ahead = new long[deeds.length][];
            for (int i = 0; i < deeds.length; i++) {
                ahead[i] = told(x);
                done(x, deeds[(i * 2 + first) % deeds.length]);
            }
            for (int i = deeds.length - 1; i >= 0; i--) {
                due(x, i + 2, "back");
                Edge.same(deeds[(i * 2 + first) % deeds.length][0], told(x), ahead[i]);
            }
        }
    }

    private static void done(TightRings x, String[] deed) {
        long[] args = new long[deed.length - 1];
        for (int i = 0; i < args.length; i++) args[i] = Integer.parseInt(deed[i + 1]);
        Edge.ask(x, deed[0], args);
    }

    private static long[] told(TightRings x) {
        long[] all = new long[26];
        for (int i = 0; i < 25; i++) all[i] = Edge.ask(x, "point", i / 5, i % 5);
        all[25] = Edge.ask(x, "is", 1);
        return all;
    }

    // ---- Promises

    private static void aNewObject() {
        says("1", "No POINTS.");
        TightRings another = Edge.row(40);
        TightRings x = new TightRings();
        for (int what = 0; what < 8; what++) due(x, 0, "is", what);
        for (int k = 0; k < 40; k++) due(x, OTHER, "point", k, 2);
        for (int set = 1; set < 16; set++) due(x, 0, "spots", set);
        due(x, NONE, "back");
        due(x, NONE, "fault");
        due(x, NONE, "octet", 0);
        due(x, NONE, "heaviest", 0);
        due(x, 0, "put", 0, 0, 0);
        due(another, 40, "is", 0);
    }

    private static void feed() {
        says("2", "Twenty bytes come behind the tape, the highest of a first: how many it has.");
        TightRings x = new TightRings();
        // a12,-34;b5,67;pc1,2;
        due(x, 20, "feed", 0x6131322C, 0x2D33343B, 0x62352C36, 0x373B7063, 0x312C323B);
        due(x, 40, "feed", 0x6131322C, 0x2D33343B, 0x62352C36, 0x373B7063, 0x312C323B);
        due(x, 40, "is", 3);
        due(x, 6, "text");
        due(x, 12, "point", 2, 0);
        due(x, -34, "point", 2, 1);
        due(x, 5, "point", 3, 0);
        due(x, 67, "point", 3, 1);
        // behind what end() left, and bytes above 127 at both ends of a number
        due(x, 20, "feed", 0x61312C32, 0x3B000000, 0, 0, -1);
        due(x, 5, "end", 5);
        due(x, 25, "feed", 0x62332C34, 0x3B636363, 0, 0, 0);
        due(x, 10, "end", 10);
        due(x, 2, "text");
        due(x, 4, "point", 5, 1);
        due(x, 20, "feed", 0x61312CFF, LOW, HIGH, 0, 0);
        due(x, NONE, "text");
        due(x, 3, "fault");
        due(x, 20, "feed", 0x61312C32, 0x3B0000FF, 0, 0, 0);
        due(x, NONE, "text");
        due(x, 5, "fault");
    }

    private static void feedTooMuch() {
        says("2", "NONE, and none come, if there would be more than 400.");
        TightRings x = new TightRings();
        String full = paceText(400);
        Edge.tape(x, full);
        due(x, 400, "is", 3);
        due(x, NONE, "feed", -1, -1, -1, -1, -1);
        due(x, 400, "is", 3);
        due(x, 400, "end", 400);
        due(x, itemsOf(full), "text");
        for (int bytes = 381; bytes < 400; bytes++) {
            String text = paceText(bytes);
            Edge.tape(x, text);
            due(x, NONE, "feed", 0x61312C31, 0x3B61312C, 0x313B6131, 0x2C313B61, 0x312C313B);
            due(x, bytes, "is", 3);
            due(x, NONE, "end", bytes + 1);
            due(x, itemsOf(text), "text");
            if (bytes % 7 == 0) x = new TightRings();
        }
        Edge.tape(x, paceText(380));
        due(x, 400, "feed", 0x61312C31, 0x3B61312C, 0x313B6131, 0x2C313B61, 0x312C313B);
        due(x, itemsOf(paceText(380)) + 4, "text");
    }

    private static void end() {
        says("3", "The tape has its first n bytes alone: n.");
        TightRings x = new TightRings();
        due(x, 0, "end", 0);
        Edge.tape(x, "a1,2;b3,4;c5,6;d7,8;");
        due(x, 20, "end", 20);
        due(x, 19, "end", 19);
        due(x, 19, "is", 3);
        due(x, 10, "end", 10);
        due(x, 2, "text");
        due(x, 2, "is", 0);
        due(x, 1, "point", 0, 0);
        due(x, 4, "point", 1, 1);
        Edge.tape(x, "a1,2;b3,4;");
        due(x, 0, "end", 0);
        due(x, 0, "is", 3);
        due(x, 0, "text");
        Edge.tape(x, paceText(400));
        due(x, 400, "end", 400);
        due(x, 399, "end", 399);
        due(x, 1, "end", 1);
    }

    private static void endRefused() {
        says("3", "NONE, and nothing is done, if it has not so many, or n is below 0.");
        TightRings x = new TightRings();
        due(x, NONE, "end", 1);
        due(x, NONE, "end", -1);
        Edge.tape(x, "a1,2;b3,4;");
        for (int n : new int[] {11, 12, 20, 400, 401, -1, -10, LOW, HIGH}) {
            due(x, NONE, "end", n);
            due(x, 10, "is", 3);
        }
        due(x, 2, "text");
        // what was cut off does not come again
        Edge.tape(x, "a1,2;b3,4;");
        due(x, 5, "end", 5);
        due(x, NONE, "end", 6);
        due(x, 1, "text");
    }

    private static void text() {
        says("4", "The tape (empty then) is THE TEXT: how many ITEMS.");
        TightRings x = new TightRings();
        due(x, 0, "text");
        Edge.dueText(x, 1, "pa0,0;");
        due(x, 0, "is", 3);
        due(x, NONE, "end", 1);
        due(x, 0, "text");
        Edge.dueText(x, 3, "a1,1;pb1,1;b2,2;");
        due(x, 0, "is", 3);
        String full = paceText(400);
        Edge.dueText(x, itemsOf(full), full);
        due(x, 20, "feed", 0x61312C31, 0x3B61312C, 0x313B6131, 0x2C313B61, 0x312C313B);
        due(x, 4, "text");
    }

    private static void textWithAFault() {
        says("4", "NONE: a FAULT.");
        TightRings x = new TightRings();
        Edge.dueFault(x, 0, "x");
        due(x, 0, "is", 3);
        due(x, 0, "is", 2);
        Edge.dueFault(x, 400, paceText(399) + "a");
        due(x, 0, "is", 3);
        due(x, NONE, "back");
    }

    private static void fault() {
        says("5", "The FAULT's place of the latest text();");
        TightRings x = new TightRings();
        Edge.dueFault(x, 0, "x");
        Edge.dueFault(x, 400, paceText(399) + "a");
        Edge.tape(x, "b");
        due(x, 400, "fault");
        due(x, NONE, "text");
        due(x, 1, "fault");
        due(x, NONE, "put", 101, 0, 0);
        due(x, 0, "put", 1, 1, 0);
        due(x, 0, "back");
        due(x, 1, "fault");
    }

    private static void faultAheadOfAny() {
        says("5", "NONE, if that was well, ahead of any.");
        TightRings x = new TightRings();
        due(x, NONE, "fault");
        Edge.tape(x, "x");
        due(x, NONE, "fault");
        due(x, NONE, "text");
        due(x, 0, "fault");
        due(x, 0, "text");
        due(x, NONE, "fault");
        Edge.dueFault(x, 2, "a1");
        Edge.dueText(x, 1, "a1,1;");
        due(x, 1, "back");
        due(x, NONE, "fault");
    }

    private static void put() {
        says("6", "A POINT comes: its number.");
        TightRings x = new TightRings();
        due(x, 0, "put", -100, 100, 0);
        due(x, 1, "put", 100, -100, 3);
        due(x, -100, "point", 0, 0);
        due(x, 100, "point", 0, 1);
        due(x, 0, "point", 0, 2);
        due(x, 3, "point", 1, 2);
        due(x, 2, "is", 0);
        due(Edge.row(39), 39, "put", 0, 0, 0);
    }

    private static void putRefused() {
        says("6", "NONE: not as told, none is left.");
        TightRings x = Edge.row(39);
        for (int[] place : PLACES_REFUSED) due(x, NONE, "put", place[0], place[1], 0);
        for (int heap : new int[] {-1, 4, LOW, HIGH}) due(x, NONE, "put", 0, 0, heap);
        due(x, 39, "is", 0);
        due(x, 20, "is", 2);
        due(x, 39, "put", 0, 0, 0);
        due(x, NONE, "put", 0, 0, 0);
        due(x, NONE, "put", 101, 0, 0);
        due(x, 40, "is", 0);
        due(x, 1, "gone", 39);
        due(x, 39, "put", 0, 0, 0);
        // wherever the forty are, and whatever their PACES
        for (int place = -1; place < 2; place++) {
            TightRings full = new TightRings();
            for (int k = 0; k < 40; k++) due(full, k, "put", place, place, k % 4);
            for (int heap = 0; heap < 4; heap++) due(full, 1, "pace", heap, place, place);
            due(full, NONE, "put", 0, 0, 0);
            Edge.dueFault(full, 0, "a0,0;");
            due(full, 40, "is", 0);
            due(full, 1, "gone", 3);
            due(full, 3, "put", 0, 0, 0);
        }
    }

    private static void gone() {
        says("7", "POINT k goes: true; false: there is none such.");
        TightRings x = Edge.row(40);
        for (int k : NO_NUMBERS) due(x, 0, "gone", k);
        due(x, 40, "is", 0);
        due(x, 1, "gone", 0);
        due(x, 0, "gone", 0);
        due(x, 1, "gone", 39);
        due(x, 0, "gone", 39);
        due(x, 38, "is", 0);
        due(x, OTHER, "point", 39, 0);
        due(x, 38, "spots", 1);
        due(new TightRings(), 0, "gone", 0);
    }

    private static void moved() {
        says("8", "POINT k has x, y from now on (its HEAP stays): true;");
        TightRings x = Edge.of("d1,2;b3,4;pd1,1;");
        due(x, 0, "tick", 2);
        for (int[] place : PLACES_TAKEN) {
            due(x, 1, "moved", 0, place[0], place[1]);
            due(x, place[0], "point", 0, 0);
            due(x, place[1], "point", 0, 1);
            due(x, 3, "point", 0, 2);
            due(x, place[0] + 2, "point", 0, 3);
        }
        due(x, 3, "point", 1, 0);
        TightRings full = Edge.row(40);
        due(full, 1, "moved", 39, 5, 6);
        due(full, 5, "point", 39, 0);
        due(full, 38, "point", 38, 0);
    }

    private static void movedRefused() {
        says("8", "false: there is none such, not as told.");
        TightRings x = Edge.of("d1,2;b3,4;");
        for (int k : NO_NUMBERS) due(x, 0, "moved", k, 0, 0);
        due(x, 0, "moved", 2, 0, 0);
        for (int[] place : PLACES_REFUSED) due(x, 0, "moved", 1, place[0], place[1]);
        due(x, 3, "point", 1, 0);
        due(x, 4, "point", 1, 1);
        due(x, 2, "is", 0);
        due(x, 1, "is", 2);
        due(x, 1, "gone", 1);
        due(x, 0, "moved", 1, 0, 0);
    }

    private static void pace() {
        says("9", "A HEAP's PACE: true;");
        TightRings x = Edge.of("a0,0;b0,0;c0,0;d0,0;");
        due(x, 0, "tick", 20);
        for (int heap = 0; heap < 4; heap += 3) {
            for (int[] pace : PACES_TAKEN) {
                due(x, 1, "pace", heap, pace[0], pace[1]);
                due(x, 20 * pace[0], "point", heap, 3);
                due(x, 20 * pace[1], "point", heap, 4);
            }
        }
        due(x, 0, "point", 1, 3);
        due(x, 0, "point", 2, 4);
        // a HEAP without POINTS has one, too
        TightRings later = new TightRings();
        due(later, 1, "pace", 3, 3, -3);
        due(later, 0, "tick", 1);
        due(later, 0, "put", 0, 0, 3);
        due(later, 3, "point", 0, 3);
    }

    private static void paceRefused() {
        says("9", "false: not as told.");
        TightRings x = Edge.of("a0,0;b0,0;c0,0;d0,0;pa1,1;pd2,2;");
        due(x, 0, "tick", 1);
        for (int[] pace : PACES_REFUSED) {
            due(x, 0, "pace", 0, pace[0], pace[1]);
            due(x, 0, "pace", 3, pace[0], pace[1]);
        }
        for (int heap : new int[] {-1, 4, LOW, HIGH}) due(x, 0, "pace", heap, 0, 0);
        due(x, 1, "point", 0, 3);
        due(x, 2, "point", 3, 4);
        due(x, 2, "is", 2);
    }

    private static void tick() {
        says("10", "TICK becomes t: what it was.");
        TightRings x = new TightRings();
        due(x, 0, "tick", 1);
        due(x, 1, "tick", 20);
        due(x, 20, "tick", 20);
        due(x, 20, "tick", 0);
        due(x, 0, "tick", 0);
        due(x, 0, "is", 1);
        due(x, 5, "is", 2);
    }

    private static void tickRefused() {
        says("10", "NONE: not as told.");
        TightRings x = new TightRings();
        due(x, 0, "tick", 7);
        for (int t : new int[] {21, -1, 100, LOW, HIGH}) {
            due(x, NONE, "tick", t);
            due(x, 7, "is", 1);
        }
        due(x, 1, "is", 2);
    }

    private static void back() {
        says("11", "The latest DEED is taken back: how many still can be.");
        TightRings x = new TightRings();
        due(x, 0, "put", 1, 1, 0);
        due(x, 0, "back");
        due(x, 0, "is", 0);
        due(x, 0, "put", 1, 1, 0);
        due(x, 1, "put", 2, 2, 0);
        due(x, 1, "back");
        due(x, 0, "back");
        TightRings full = Edge.row(40);
        for (int left = 19; left >= 0; left--) {
            due(full, left, "back");
            due(full, 20 + left, "is", 0);
        }
        due(full, NONE, "back");
        due(full, 20, "is", 0);
    }

    private static void backOfNone() {
        says("11", "NONE: none.");
        TightRings x = new TightRings();
        due(x, NONE, "back");
        due(x, NONE, "put", 101, 0, 0);
        due(x, NONE, "back");
        due(x, 0, "tick", 3);
        due(x, 0, "back");
        due(x, NONE, "back");
        due(x, 0, "is", 1);
        due(x, 0, "is", 2);
        due(x, 0, "tick", 4);
        due(x, 0, "back");
        due(x, NONE, "back");
    }

    private static void is() {
        says("12", "0 POINTS, 1 TICK, 2 DEEDS that can be taken back, 3 bytes of the tape, 4 + h: POINTS of HEAP h (0 .. 3).");
        TightRings empty = new TightRings();
        Edge.dueEach(empty, Edge.answers(0, 0, 0, 0, 0, 0, 0, 0), "is");
        TightRings x = Edge.of("a1,1;a1,1;a1,1;b2,2;c3,3;c4,4;");
        due(x, 0, "tick", 20);
        due(x, 20, "feed", 0, 0, 0, 0, 0);
        Edge.dueEach(x, Edge.answers(6, 20, 2, 20, 3, 1, 2, 0), "is");
        TightRings full = new TightRings();
        for (int k = 0; k < 40; k++) due(full, k, "put", 0, 0, 3);
        Edge.tape(full, paceText(400));
        Edge.dueEach(full, Edge.answers(40, 0, 20, 400, 0, 0, 0, 40), "is");
    }

    private static void isForOthers() {
        says("12", "NONE for others.");
        TightRings x = Edge.of("a1,1;b2,2;c3,3;d4,4;");
        for (int what : new int[] {-1, 8, 9, 36, -4, LOW, HIGH}) due(x, NONE, "is", what);
        due(x, 1, "is", 7);
    }

    private static void point() {
        says("13", "Of POINT k: 0 x, 1 y (as told), 2 HEAP, 3, 4 x, y where it STANDS.");
        TightRings x = Edge.row(39);
        due(x, 39, "put", -100, 100, 3);
        due(x, 1, "pace", 3, -3, 2);
        due(x, 1, "pace", 0, 0, -1);
        due(x, 0, "tick", 20);
        Edge.dueEach(x, Edge.answers(-100, 100, 3, -160, 140), "point", 39);
        Edge.dueEach(x, Edge.answers(0, 0, 0, 0, -20), "point", 0);
        due(x, 20, "tick", 0);
        Edge.dueEach(x, Edge.answers(-100, 100, 3, -100, 100), "point", 39);
    }

    private static void pointForOthers() {
        says("13", "-1000 for others.");
        TightRings x = Edge.row(39);
        for (int what : new int[] {-1, 5, LOW, HIGH}) due(x, OTHER, "point", 0, what);
        for (int k : NO_NUMBERS) due(x, OTHER, "point", k, 0);
        due(x, OTHER, "point", 39, 0);
        due(x, 39, "put", 0, 0, 0);
        due(x, 0, "point", 39, 0);
        due(x, 1, "gone", 0);
        due(x, OTHER, "point", 0, 0);
        for (int what = 0; what < 5; what++) due(new TightRings(), OTHER, "point", 0, what);
    }

    private static void spots() {
        says("14", "How many SPOTS a SET has.");
        TightRings x = Edge.row(40);
        due(x, 40, "spots", 1);
        due(x, 40, "spots", 15);
        due(x, 0, "spots", 14);
        due(x, 1, "moved", 39, 0, 0);
        due(x, 39, "spots", 1);
        TightRings empty = new TightRings();
        for (int set = 1; set < 16; set++) due(empty, 0, "spots", set);
    }

    private static void noSuchSet() {
        says("14", "NONE: no such SET.");
        TightRings x = Edge.of("a0,0;b1,1;c2,2;d3,3;");
        for (int set : new int[] {0, 16, 17, -1, LOW, LOW + 1, HIGH}) due(x, NONE, "spots", set);
        due(x, 1, "spots", 1);
        due(x, 4, "spots", 15);
    }

    private static void spot() {
        says("15", "Of the i-th SPOT (0 on) of a SET: 0 x, 1 y, 2 its POINT.");
        TightRings x = new TightRings();
        for (int k = 0; k < 40; k++) due(x, k, "put", 40 - k, -k, k % 4);
        Edge.dueEach(x, Edge.answers(1, -39, 39), "spot", 15, 0);
        Edge.dueEach(x, Edge.answers(40, 0, 0), "spot", 15, 39);
        Edge.dueEach(x, Edge.answers(4, -36, 36), "spot", 1, 0);
        Edge.dueEach(x, Edge.answers(40, 0, 0), "spot", 1, 9);
    }

    private static void spotForOthers() {
        says("15", "-1000 for others.");
        TightRings x = Edge.row(40);
        for (int i : new int[] {-1, 40, 41, LOW, HIGH}) due(x, OTHER, "spot", 15, i, 0);
        for (int what : new int[] {-1, 3, LOW, HIGH}) due(x, OTHER, "spot", 15, 0, what);
        for (int set : new int[] {0, 16, 17, -1, LOW, LOW + 1, HIGH}) due(x, OTHER, "spot", set, 0, 0);
        due(x, OTHER, "spot", 2, 0, 0);
        due(x, 1, "gone", 0);
        due(x, OTHER, "spot", 1, 39, 0);
        due(x, 39, "spot", 1, 38, 0);
        due(new TightRings(), OTHER, "spot", 1, 0, 0);
    }
}
