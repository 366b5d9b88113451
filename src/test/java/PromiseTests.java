/** Each promise by itself: ordinary calls, the edges that the document names, and wrong calls. */
public final class PromiseTests {
    private static final int NONE = -1;
    private static final int LOW = Integer.MIN_VALUE;
    private static final int HIGH = Integer.MAX_VALUE;
    private static int wrong = 0;
    private static int checks = 0;
    private static int promise = 0;

    public static void main(String[] args) {
        aNewObject();
        feed();
        end();
        text();
        fault();
        put();
        gone();
        moved();
        pace();
        tick();
        back();
        is();
        point();
        spots();
        spot();
        circle();
        tight();
        rim();
        inside();
        needed();
        proof();
        when();
        hull();
        area();
        layer();
        strip();
        couple();
        ring();
        two();
        box();
        meets();
        fewer();
        worse();
        calm();
        reach();
        whole();
        sees();
        heaviest();
        deep();
        meetsAt();
        changes();
        write();
        octet();
        System.out.println(checks + " checks of " + promise + " promises, " + wrong + " not as due");
        if (wrong != 0 || promise != 43) System.exit(1);
    }

    private static void begin(int number) {
        promise = number;
    }

    private static void due(String call, long got, long want) {
        checks++;
        if (got == want) return;
        wrong++;
        System.out.println("promise " + promise + ": " + call + " answered " + got + ", due is " + want);
    }

    private static void due(String call, boolean got, boolean want) {
        due(call, got ? 1 : 0, want ? 1 : 0);
    }

    /** Feeds a text and reads it. */
    private static int load(TightRings x, String text) {
        x.end(0);
        for (int i = 0; i < text.length(); i += 20) {
            int[] words = new int[5];
            for (int j = 0; j < 20 && i + j < text.length(); j++) words[j / 4] |= text.charAt(i + j) << 24 - 8 * (j % 4);
            x.feed(words[0], words[1], words[2], words[3], words[4]);
        }
        x.end(text.length());
        return x.text();
    }

    private static TightRings of(String text) {
        TightRings x = new TightRings();
        if (load(x, text) < 0) throw new IllegalArgumentException(text);
        return x;
    }

    private static TightRings full() {
        TightRings x = new TightRings();
        for (int k = 0; k < 40; k++) x.put(k, k % 3, k % 4);
        return x;
    }

    private static void aNewObject() {
        begin(1);
        TightRings x = new TightRings();
        for (int what = 0; what < 8; what++) due("is(" + what + ")", x.is(what), 0);
        for (int k = 0; k < 40; k++) due("point(" + k + ", 2)", x.point(k, 2), -1000);
        for (int set = 1; set < 16; set++) due("spots(" + set + ")", x.spots(set), 0);
        due("fault()", x.fault(), NONE);
        due("back()", x.back(), NONE);
        due("octet(0)", x.octet(0), NONE);
        due("NONE", TightRings.NONE, -1);
        TightRings y = new TightRings();
        y.put(1, 2, 3);
        due("is(0) of another", x.is(0), 0);
    }

    private static void feed() {
        begin(2);
        TightRings x = new TightRings();
        // "d-12,34;pb-3,2;a0,0;"
        due("feed", x.feed(0x642D3132, 0x2C33343B, 0x70622D33, 0x2C323B61, 0x302C303B), 20);
        due("text()", x.text(), 3);
        due("point(0, 0)", x.point(0, 0), -12);
        due("point(0, 1)", x.point(0, 1), 34);
        due("point(0, 2)", x.point(0, 2), 3);
        due("point(1, 2)", x.point(1, 2), 0);
        for (int i = 1; i <= 20; i++) due("feed " + i, x.feed(-1, LOW, HIGH, 0, i), 20 * i);
        due("a 21st feed", x.feed(0, 0, 0, 0, 0), NONE);
        due("is(3)", x.is(3), 400);
        due("end(381)", x.end(381), 381);
        due("feed", x.feed(0, 0, 0, 0, 0), NONE);
        due("is(3)", x.is(3), 381);
        due("end(380)", x.end(380), 380);
        due("feed", x.feed(0, 0, 0, 0, 0), 400);
        due("is(2)", x.is(2), 1);
    }

    private static void end() {
        begin(3);
        TightRings x = new TightRings();
        due("end(0)", x.end(0), 0);
        due("end(1)", x.end(1), NONE);
        x.feed(0x61312C32, 0x3B787878, 0, 0, 0);
        due("end(21)", x.end(21), NONE);
        due("end(-1)", x.end(-1), NONE);
        due("end(LOW)", x.end(LOW), NONE);
        due("end(HIGH)", x.end(HIGH), NONE);
        due("is(3)", x.is(3), 20);
        due("end(20)", x.end(20), 20);
        due("end(5)", x.end(5), 5);
        due("end(6)", x.end(6), NONE);
        due("text()", x.text(), 1);
        due("is(2)", x.is(2), 1);
    }

    private static void text() {
        begin(4);
        TightRings x = new TightRings();
        due("text of all kinds", load(x, "a1,-2;pd3,-3;b-100,100;c007,-0;"), 4);
        due("is(3)", x.is(3), 0);
        due("is(2)", x.is(2), 1);
        due("is(0)", x.is(0), 3);
        due("point(0, 1)", x.point(0, 1), -2);
        due("point(1, 0)", x.point(1, 0), -100);
        due("point(2, 0)", x.point(2, 0), 7);
        due("point(2, 1)", x.point(2, 1), 0);
        x.gone(1);
        due("the least numbers that are free", load(x, "d5,6;d7,8;"), 2);
        due("point(1, 0)", x.point(1, 0), 5);
        due("point(3, 0)", x.point(3, 0), 7);
        x.tick(1);
        due("point(3, 3)", x.point(3, 3), 10);
        due("all or nothing", load(x, "a1,1;pd0,0;b1,1"), NONE);
        due("is(3) after a FAULT", x.is(3), 0);
        due("is(0) after a FAULT", x.is(0), 4);
        due("is(2) after a FAULT", x.is(2), 4);
        due("point(3, 3) after a FAULT", x.point(3, 3), 10);
        due("an empty text", load(x, ""), 0);
        due("is(2) after an empty text", x.is(2), 5);
        due("a later PACE counts", load(x, "pa1,1;pa2,2;"), 2);
        due("point(0, 3)", x.point(0, 3), 3);
        TightRings y = new TightRings();
        StringBuilder many = new StringBuilder();
        for (int i = 0; i < 40; i++) many.append("a").append(i % 10).append(",0;");
        due("40 POINTS", load(y, many.toString()), 40);
        due("a PACE when no number is left", load(y, "pa1,0;"), 1);
    }

    private static void fault() {
        begin(5);
        dueFault("a1,2;", NONE);
        dueFault("", NONE);
        dueFault("a", 1);
        dueFault("a1", 2);
        dueFault("a1,", 3);
        dueFault("a1,2", 4);
        dueFault("a1,2;b", 6);
        dueFault("a-", 2);
        dueFault("p", 1);
        dueFault("pa", 2);
        dueFault("e1,2;", 0);
        dueFault("A1,2;", 0);
        dueFault(" a1,2;", 0);
        dueFault("a1,2;x", 5);
        dueFault("a1,2;;", 5);
        dueFault("a--1,0;", 2);
        dueFault("a-,0;", 2);
        dueFault("a+1,0;", 1);
        dueFault("a 1,0;", 1);
        dueFault("a1 ,0;", 2);
        dueFault("a,0;", 1);
        dueFault("a1;2;", 2);
        dueFault("a1,2,", 4);
        dueFault("a100,-100;", NONE);
        dueFault("a101,0;", 1);
        dueFault("a-101,0;", 1);
        dueFault("a0,101;", 3);
        dueFault("a0,-999;", 3);
        dueFault("a101x", 1);
        dueFault("a1000,0;", 4);
        dueFault("a9999,0;", 4);
        dueFault("a-0001,0;", 5);
        dueFault("a0,1234;", 6);
        dueFault("pe0,0;", 1);
        dueFault("pp0,0;", 1);
        dueFault("p0,0;", 1);
        dueFault("pa3,-3;", NONE);
        dueFault("pa4,0;", 2);
        dueFault("pa-4,0;", 2);
        dueFault("pa0,-4;", 4);
        dueFault("pa0,003;", NONE);
        dueFault("pa0,0003;", 7);
        dueFault("pa10,0;", 2);
        dueFault("b1,1;\u00e91,1;", 5);
        TightRings x = full();
        due("a POINT too many", load(x, "pa1,1;b1,1;"), NONE);
        due("fault()", x.fault(), 6);
        x.gone(3);
        due("two for one number", load(x, "b1,1;c9999,1;"), NONE);
        due("fault()", x.fault(), 5);
        x.put(101, 0, 0);
        due("fault() stays", x.fault(), 5);
        due("a text that is well", load(x, "b1,1;"), 1);
        due("fault()", x.fault(), NONE);
    }

    private static void dueFault(String text, int place) {
        TightRings x = new TightRings();
        load(x, text);
        due("fault() of " + text, x.fault(), place);
        due("is(0) > 0 of " + text, x.is(0) > 0 && place != NONE, false);
    }

    private static void put() {
        begin(6);
        TightRings x = new TightRings();
        due("put(100, -100, 3)", x.put(100, -100, 3), 0);
        due("put(-100, 100, 0)", x.put(-100, 100, 0), 1);
        due("put(101, 0, 0)", x.put(101, 0, 0), NONE);
        due("put(-101, 0, 0)", x.put(-101, 0, 0), NONE);
        due("put(0, 101, 0)", x.put(0, 101, 0), NONE);
        due("put(0, -101, 0)", x.put(0, -101, 0), NONE);
        due("put(0, 0, -1)", x.put(0, 0, -1), NONE);
        due("put(0, 0, 4)", x.put(0, 0, 4), NONE);
        due("put(LOW, LOW, LOW)", x.put(LOW, LOW, LOW), NONE);
        due("put(HIGH, HIGH, HIGH)", x.put(HIGH, HIGH, HIGH), NONE);
        due("is(2)", x.is(2), 2);
        due("point(0, 1)", x.point(0, 1), -100);
        TightRings y = full();
        due("a 41st", y.put(0, 0, 0), NONE);
        y.gone(17);
        y.gone(5);
        due("the least that is free", y.put(0, 0, 0), 5);
        due("the next one", y.put(0, 0, 0), 17);
        due("none is left", y.put(0, 0, 0), NONE);
    }

    private static void gone() {
        begin(7);
        TightRings x = of("a1,1;b2,2;");
        due("gone(2)", x.gone(2), false);
        due("gone(-1)", x.gone(-1), false);
        due("gone(40)", x.gone(40), false);
        due("gone(LOW)", x.gone(LOW), false);
        due("gone(0)", x.gone(0), true);
        due("gone(0) again", x.gone(0), false);
        due("is(0)", x.is(0), 1);
        due("is(2)", x.is(2), 2);
        due("point(0, 0)", x.point(0, 0), -1000);
        due("point(1, 0)", x.point(1, 0), 2);
        due("gone(39) of 40", full().gone(39), true);
    }

    private static void moved() {
        begin(8);
        TightRings x = of("a1,1;c2,2;");
        due("moved(1)", x.moved(1, 100, -100), true);
        due("point(1, 0)", x.point(1, 0), 100);
        due("point(1, 1)", x.point(1, 1), -100);
        due("point(1, 2)", x.point(1, 2), 2);
        due("point(0, 0)", x.point(0, 0), 1);
        due("moved(1, 101, 0)", x.moved(1, 101, 0), false);
        due("moved(1, 0, -101)", x.moved(1, 0, -101), false);
        due("moved(1, LOW, HIGH)", x.moved(1, LOW, HIGH), false);
        due("moved(2)", x.moved(2, 0, 0), false);
        due("moved(-1)", x.moved(-1, 0, 0), false);
        due("moved(40)", x.moved(40, 0, 0), false);
        due("is(2)", x.is(2), 2);
        due("moved to where it is", x.moved(0, 1, 1), true);
        due("is(2)", x.is(2), 3);
    }

    private static void pace() {
        begin(9);
        TightRings x = of("d1,1;a5,5;");
        due("pace(3, 3, -3)", x.pace(3, 3, -3), true);
        due("pace(3, 4, 0)", x.pace(3, 4, 0), false);
        due("pace(3, 0, -4)", x.pace(3, 0, -4), false);
        due("pace(-1, 0, 0)", x.pace(-1, 0, 0), false);
        due("pace(4, 0, 0)", x.pace(4, 0, 0), false);
        due("pace(LOW, LOW, HIGH)", x.pace(LOW, LOW, HIGH), false);
        due("is(2)", x.is(2), 2);
        x.tick(20);
        due("point(0, 3)", x.point(0, 3), 61);
        due("point(0, 4)", x.point(0, 4), -59);
        due("point(1, 3)", x.point(1, 3), 5);
    }

    private static void tick() {
        begin(10);
        TightRings x = of("a0,0;pa1,2;");
        due("tick(20)", x.tick(20), 0);
        due("tick(21)", x.tick(21), NONE);
        due("tick(-1)", x.tick(-1), NONE);
        due("tick(HIGH)", x.tick(HIGH), NONE);
        due("point(0, 4)", x.point(0, 4), 40);
        due("tick(20)", x.tick(20), 20);
        due("tick(0)", x.tick(0), 20);
        due("point(0, 4)", x.point(0, 4), 0);
        due("is(2)", x.is(2), 4);
    }

    private static void back() {
        begin(11);
        TightRings x = new TightRings();
        due("back() of none", x.back(), NONE);
        load(x, "a1,1;b2,2;pa1,1;");
        x.put(3, 3, 2);
        x.gone(0);
        x.moved(1, 9, 9);
        x.pace(1, -1, -1);
        x.tick(7);
        x.put(500, 0, 0);
        due("is(2)", x.is(2), 6);
        due("back() of tick", x.back(), 5);
        due("is(1)", x.is(1), 0);
        due("back() of pace", x.back(), 4);
        x.tick(1);
        due("point(1, 3)", x.point(1, 3), 9);
        due("back()", x.back(), 4);
        due("back() of moved", x.back(), 3);
        due("point(1, 0)", x.point(1, 0), 2);
        due("back() of gone", x.back(), 2);
        due("point(0, 0)", x.point(0, 0), 1);
        due("back() of put", x.back(), 1);
        due("is(0)", x.is(0), 2);
        due("back() of text", x.back(), 0);
        due("is(0)", x.is(0), 0);
        due("back() of none", x.back(), NONE);
        x.put(0, 0, 0);
        x.tick(3);
        due("the PACE is back, too: point(0, 3)", x.point(0, 3), 0);
        TightRings y = new TightRings();
        for (int t = 0; t < 25; t++) y.put(t, 0, 0);
        due("is(2) of 25", y.is(2), 20);
        for (int i = 19; i >= 0; i--) due("back()", y.back(), i);
        due("back()", y.back(), NONE);
        due("is(0)", y.is(0), 5);
        y.gone(4);
        load(y, "a1,1;x");
        due("is(2)", y.is(2), 1);
        due("back()", y.back(), 0);
        due("point(4, 0)", y.point(4, 0), 4);
        for (int t = 0; t < 20; t++) y.tick(t);
        load(y, "a1,1;a");
        for (int i = 19; i >= 0; i--) due("back() past a FAULT", y.back(), i);
        due("is(1)", y.is(1), 0);
    }

    private static void is() {
        begin(12);
        TightRings x = of("a1,1;a2,2;b3,3;d4,4;a1,1;");
        x.tick(13);
        x.feed(0, 0, 0, 0, 0);
        int[] want = {5, 13, 2, 20, 3, 1, 0, 1};
        for (int what = 0; what < 8; what++) due("is(" + what + ")", x.is(what), want[what]);
        due("is(8)", x.is(8), NONE);
        due("is(-1)", x.is(-1), NONE);
        due("is(LOW)", x.is(LOW), NONE);
        due("is(HIGH)", x.is(HIGH), NONE);
    }

    private static void point() {
        begin(13);
        TightRings x = of("c-7,8;pc2,-3;");
        x.tick(10);
        int[] want = {-7, 8, 2, 13, -22};
        for (int what = 0; what < 5; what++) due("point(0, " + what + ")", x.point(0, what), want[what]);
        due("point(0, 5)", x.point(0, 5), -1000);
        due("point(0, -1)", x.point(0, -1), -1000);
        due("point(1, 0)", x.point(1, 0), -1000);
        due("point(-1, 0)", x.point(-1, 0), -1000);
        due("point(40, 0)", x.point(40, 0), -1000);
        due("point(HIGH, LOW)", x.point(HIGH, LOW), -1000);
    }

    private static void spots() {
        begin(14);
        TightRings x = of("a1,1;a2,2;b1,1;d4,4;a1,1;");
        due("spots(1)", x.spots(1), 2);
        due("spots(2)", x.spots(2), 1);
        due("spots(3)", x.spots(3), 2);
        due("spots(4)", x.spots(4), 0);
        due("spots(15)", x.spots(15), 3);
        due("spots(0)", x.spots(0), NONE);
        due("spots(16)", x.spots(16), NONE);
        due("spots(-1)", x.spots(-1), NONE);
        due("spots(HIGH)", x.spots(HIGH), NONE);
        x.pace(0, 1, 1);
        x.tick(1);
        due("spots(15) later", x.spots(15), 4);
    }

    private static void spot() {
        begin(15);
        TightRings x = of("a3,1;b-1,5;a-1,-5;b3,1;c3,0;");
        int[][] want = {{-1, -5, 2}, {-1, 5, 1}, {3, 0, 4}, {3, 1, 0}};
        for (int i = 0; i < 4; i++) {
            for (int what = 0; what < 3; what++) due("spot(15, " + i + ", " + what + ")", x.spot(15, i, what), want[i][what]);
        }
        due("spot(2, 1, 2)", x.spot(2, 1, 2), 3);
        due("spot(15, 4, 0)", x.spot(15, 4, 0), -1000);
        due("spot(15, -1, 0)", x.spot(15, -1, 0), -1000);
        due("spot(15, 0, 3)", x.spot(15, 0, 3), -1000);
        due("spot(15, 0, -1)", x.spot(15, 0, -1), -1000);
        due("spot(8, 0, 0)", x.spot(8, 0, 0), -1000);
        due("spot(0, 0, 0)", x.spot(0, 0, 0), -1000);
        due("spot(16, 0, 0)", x.spot(16, 0, 0), -1000);
        due("spot(HIGH, HIGH, HIGH)", x.spot(HIGH, HIGH, HIGH), -1000);
    }

    private static void dueAll(String call, long[] got, long... want) {
        for (int i = 0; i < want.length; i++) due(call + " " + i, got[i], want[i]);
    }

    private static long[] circleOf(TightRings x, int set) {
        long[] told = new long[6];
        for (int what = 0; what < 6; what++) told[what] = x.circle(set, what);
        return told;
    }

    private static void circle() {
        begin(16);
        dueAll("one", circleOf(of("a3,-4;a3,-4;"), 1), 0, 1, 3, 1, -4, 1);
        dueAll("two", circleOf(of("a0,0;a-3,1;"), 1), 5, 2, -3, 2, 1, 2);
        dueAll("a line", circleOf(of("a0,0;a1,1;a5,5;a2,2;"), 1), 25, 2, 5, 2, 5, 2);
        dueAll("a sharp three", circleOf(of("a0,0;a4,0;a2,3;"), 1), 169, 36, 2, 1, 5, 6);
        dueAll("a blunt three", circleOf(of("a0,0;a4,0;a2,1;"), 1), 4, 1, 2, 1, 0, 1);
        dueAll("a right three", circleOf(of("a0,0;a4,0;b0,3;"), 3), 25, 4, 2, 1, 3, 2);
        dueAll("others do not count", circleOf(of("a0,0;a4,0;b0,99;"), 1), 4, 1, 2, 1, 0, 1);
        TightRings x = of("a-100,-100;b100,-100;c0,100;pa-3,-3;pb3,-3;pc0,3;");
        x.tick(20);
        // (-160,-160), (160,-160), (0,160): the centre is (0, -40), the radius 200
        dueAll("far out", circleOf(x, 7), 40000, 1, 0, 1, -40, 1);
        due("circle(7, 6)", x.circle(7, 6), -1000);
        due("circle(7, -1)", x.circle(7, -1), -1000);
        due("circle(8, 0)", x.circle(8, 0), -1000);
        due("circle(0, 0)", x.circle(0, 0), -1000);
        due("circle(16, 0)", x.circle(16, 0), -1000);
        due("circle(LOW, LOW)", x.circle(LOW, LOW), -1000);
    }

    private static void tight() {
        begin(17);
        TightRings square = of("a0,6;a6,6;a6,0;a0,0;b0,6;a3,3;");
        due("two are fewer", square.tight(1, NONE), 2);
        due("tight(1, 0)", square.tight(1, 0), 0);
        due("tight(1, 1)", square.tight(1, 1), 2);
        due("tight(1, 2)", square.tight(1, 2), NONE);
        due("tight(1, -2)", square.tight(1, -2), NONE);
        due("tight(1, LOW)", square.tight(1, LOW), NONE);
        due("tight(1, HIGH)", square.tight(1, HIGH), NONE);
        due("tight(2, -1)", square.tight(2, NONE), 1);
        due("tight(2, 0)", square.tight(2, 0), 4);
        due("tight(4, -1)", square.tight(4, NONE), NONE);
        due("tight(0, -1)", square.tight(0, NONE), NONE);
        due("tight(16, 0)", square.tight(16, 0), NONE);
        // about (0, 0) with radius 25, no two opposite: of the threes that force it 0, 1, 4 comes first
        TightRings three = of("a25,0;a-24,7;a-20,15;a-15,20;a-7,-24;a-15,-20;");
        due("three", three.tight(1, NONE), 3);
        due("the first", three.tight(1, 0), 0);
        due("the second", three.tight(1, 1), 1);
        due("the third", three.tight(1, 2), 4);
        TightRings shared = of("b0,0;a0,0;a2,0;");
        due("of POINTS at one SPOT the least", shared.tight(3, 0), 0);
        due("of those of the SET", shared.tight(1, 0), 1);
    }

    private static void rim() {
        begin(18);
        TightRings x = of("a0,0;a6,0;a6,6;a0,6;a3,3;a0,0;b1,1;");
        due("rim(1)", x.rim(1), 4);
        due("rim(2)", x.rim(2), 1);
        due("rim(4)", x.rim(4), NONE);
        due("rim(0)", x.rim(0), NONE);
        due("rim(16)", x.rim(16), NONE);
        due("rim(LOW)", x.rim(LOW), NONE);
    }

    private static void inside() {
        begin(19);
        TightRings x = of("a0,0;a8,6;b3,3;");
        due("inside(1, 4, 3)", x.inside(1, 4, 3), 2);
        due("inside(1, 9, 3)", x.inside(1, 9, 3), 1);
        due("inside(1, 4, -2)", x.inside(1, 4, -2), 1);
        due("inside(1, 9, 4)", x.inside(1, 9, 4), 0);
        due("inside(1, 300, -300)", x.inside(1, 300, -300), 0);
        due("inside(1, 301, 0)", x.inside(1, 301, 0), NONE);
        due("inside(1, 0, -301)", x.inside(1, 0, -301), NONE);
        due("inside(1, LOW, HIGH)", x.inside(1, LOW, HIGH), NONE);
        due("inside(2, 3, 3)", x.inside(2, 3, 3), 1);
        due("inside(2, 3, 4)", x.inside(2, 3, 4), 0);
        due("inside(4, 0, 0)", x.inside(4, 0, 0), NONE);
        due("inside(0, 0, 0)", x.inside(0, 0, 0), NONE);
        due("inside(16, 0, 0)", x.inside(16, 0, 0), NONE);
    }

    private static void needed() {
        begin(20);
        TightRings x = of("a0,0;a4,0;a2,3;a2,1;b4,0;c9,9;");
        due("needed(1, 0)", x.needed(1, 0), 1);
        due("needed(1, 1)", x.needed(1, 1), 1);
        due("needed(1, 3)", x.needed(1, 3), 0);
        due("one of two at a SPOT", x.needed(3, 1), 0);
        due("the other", x.needed(3, 4), 0);
        due("the last one", x.needed(4, 5), 1);
        due("needed(1, 4)", x.needed(1, 4), NONE);
        due("needed(1, 6)", x.needed(1, 6), NONE);
        due("needed(1, -1)", x.needed(1, -1), NONE);
        due("needed(1, 40)", x.needed(1, 40), NONE);
        due("needed(1, 64)", x.needed(1, 64), NONE);
        due("needed(8, 0)", x.needed(8, 0), NONE);
        due("needed(0, 0)", x.needed(0, 0), NONE);
        due("needed(17, 0)", x.needed(17, 0), NONE);
        TightRings square = of("a0,0;a6,0;a6,6;a0,6;");
        due("two pairs force it", square.needed(1, 2), 0);
    }

    private static void proof() {
        begin(21);
        TightRings x = of("a0,0;a6,0;a6,6;a0,6;a3,3;b0,0;c50,50;");
        due("two opposite", x.proof(1, 5), 1);
        due("the other two", x.proof(1, 10), 1);
        due("a side", x.proof(1, 3), 0);
        due("three", x.proof(1, 7), 1);
        due("all", x.proof(1, 31), 1);
        due("one", x.proof(1, 1), 0);
        due("one at the same SPOT", x.proof(3, 4 + 32), 1);
        due("one that is not of the SET", x.proof(1, 4 + 32), NONE);
        due("one that is not there", x.proof(15, 5 + 128), NONE);
        due("none", x.proof(1, 0), NONE);
        due("bit 40", x.proof(1, 5 + (1L << 40)), NONE);
        due("bit 63", x.proof(1, Long.MIN_VALUE | 5), NONE);
        due("all bits", x.proof(15, -1L), NONE);
        due("proof(4, 64)", x.proof(4, 64), 1);
        due("proof(8, 1)", x.proof(8, 1), NONE);
        due("proof(0, 1)", x.proof(0, 1), NONE);
        due("proof(16, 1)", x.proof(16, 1), NONE);
        due("POINT 39 of 40", full().proof(15, 1L | 1L << 39), 1);
    }

    private static void when() {
        begin(22);
        TightRings x = of("a0,0;b0,0;pb2,0;");
        // at TICK t the SIZE is t squared
        due("when(3, 0)", x.when(3, 0), 1);
        due("when(3, 8)", x.when(3, 8), 3);
        due("when(3, 9)", x.when(3, 9), 4);
        due("when(3, 399)", x.when(3, 399), 20);
        due("when(3, 400)", x.when(3, 400), NONE);
        due("when(3, HIGH)", x.when(3, HIGH), NONE);
        x.tick(20);
        due("of all TICKS: when(3, 0)", x.when(3, 0), 1);
        due("when(1, 0)", x.when(1, 0), NONE);
        due("when(3, -1)", x.when(3, -1), NONE);
        due("when(3, LOW)", x.when(3, LOW), NONE);
        due("when(4, 0)", x.when(4, 0), NONE);
        due("when(0, 0)", x.when(0, 0), NONE);
        due("when(16, 0)", x.when(16, 0), NONE);
        due("SIZE 5/2 is more than 2", of("a0,0;a1,3;").when(1, 2), 0);
    }

    private static void dueHull(TightRings x, int set, int... corners) {
        due("hull(" + set + ", NONE)", x.hull(set, NONE), corners.length);
        for (int i = 0; i < corners.length; i++) due("hull(" + set + ", " + i + ")", x.hull(set, i), corners[i]);
        due("hull(" + set + ", " + corners.length + ")", x.hull(set, corners.length), NONE);
    }

    private static void hull() {
        begin(23);
        dueHull(of("a0,6;a6,6;a6,0;a0,0;a3,0;a6,3;a2,2;a0,3;"), 1, 3, 2, 1, 0);
        dueHull(of("a5,5;a1,1;a3,3;"), 1, 1, 0);
        dueHull(of("a2,9;a2,-9;a2,0;"), 1, 1, 0);
        dueHull(of("a2,9;b7,7;"), 1, 0);
        dueHull(of("b0,0;a0,0;a4,0;a2,-3;"), 3, 0, 3, 2);
        TightRings x = of("a0,0;");
        due("hull(1, -2)", x.hull(1, -2), NONE);
        due("hull(1, HIGH)", x.hull(1, HIGH), NONE);
        due("hull(2, NONE)", x.hull(2, NONE), NONE);
        due("hull(0, NONE)", x.hull(0, NONE), NONE);
        due("hull(16, 0)", x.hull(16, 0), NONE);
    }

    private static void area() {
        begin(24);
        TightRings x = of("a0,0;a4,0;a0,3;a1,1;b5,5;b7,7;c-1,0;");
        due("area(1)", x.area(1), 12);
        due("area(2)", x.area(2), 0);
        due("area(4)", x.area(4), 0);
        due("area(8)", x.area(8), NONE);
        due("area(0)", x.area(0), NONE);
        due("area(16)", x.area(16), NONE);
        due("the widest", of("a-100,-100;a100,-100;a100,100;a-100,100;").area(1), 80000);
    }

    private static void layer() {
        begin(25);
        TightRings x = of("a0,0;a6,0;a6,6;a0,6;a3,0;a3,3;a2,2;b3,0;c9,9;");
        due("layer(1, NONE)", x.layer(1, NONE), 2);
        due("layer(1, 0)", x.layer(1, 0), 0);
        due("a SPOT in a side stays", x.layer(1, 4), 1);
        due("layer(1, 5)", x.layer(1, 5), 1);
        due("layer(1, 6)", x.layer(1, 6), 1);
        due("of its SPOT", x.layer(3, 7), 1);
        due("alone", x.layer(2, 7), 0);
        due("layer(1, 7)", x.layer(1, 7), NONE);
        due("layer(1, 9)", x.layer(1, 9), NONE);
        due("layer(1, -2)", x.layer(1, -2), NONE);
        due("layer(1, 40)", x.layer(1, 40), NONE);
        due("layer(8, NONE)", x.layer(8, NONE), NONE);
        due("layer(0, NONE)", x.layer(0, NONE), NONE);
        due("layer(16, 0)", x.layer(16, 0), NONE);
        TightRings line = of("a0,0;a1,0;a2,0;a3,0;a4,0;");
        due("a line", line.layer(1, NONE), 3);
        due("its middle", line.layer(1, 2), 2);
        due("beside it", line.layer(1, 3), 1);
    }

    private static void strip() {
        begin(26);
        TightRings x = of("a0,0;a4,0;a0,3;b0,0;b5,5;b9,9;c0,0;c8,0;c8,2;c0,2;");
        due("strip(1, 0)", x.strip(1, 0), 144);
        due("strip(1, 1)", x.strip(1, 1), 25);
        due("strip(1, 2)", x.strip(1, 2), 1);
        due("in one line", x.strip(2, 0), NONE);
        due("strip(4, 0)", x.strip(4, 0), 4);
        due("strip(4, 1)", x.strip(4, 1), 1);
        due("of like ones the first", x.strip(4, 2), 6);
        due("strip(1, 3)", x.strip(1, 3), NONE);
        due("strip(1, -1)", x.strip(1, -1), NONE);
        due("strip(8, 0)", x.strip(8, 0), NONE);
        due("strip(0, 0)", x.strip(0, 0), NONE);
        due("strip(16, 0)", x.strip(16, 0), NONE);
    }

    private static void couple() {
        begin(27);
        TightRings x = of("a0,0;a0,1;a3,0;b1,0;");
        // SPOTS: 0 (0,0) = POINT 0, 1 (0,1) = 1, 2 (1,0) = 3, 3 (3,0) = 2
        int[][] want = {{1, 0, 1}, {1, 0, 3}, {2, 1, 3}, {4, 3, 2}, {9, 0, 2}, {10, 1, 2}};
        for (int k = 0; k < 6; k++) {
            for (int what = 0; what < 3; what++) due("couple(3, " + k + ", " + what + ")", x.couple(3, k, what), want[k][what]);
        }
        due("couple(3, 6, 0)", x.couple(3, 6, 0), NONE);
        due("couple(3, -1, 0)", x.couple(3, -1, 0), NONE);
        due("couple(3, 0, 3)", x.couple(3, 0, 3), NONE);
        due("couple(3, 0, -1)", x.couple(3, 0, -1), NONE);
        due("couple(2, 0, 0)", x.couple(2, 0, 0), NONE);
        due("couple(8, 0, 0)", x.couple(8, 0, 0), NONE);
        due("couple(0, 0, 0)", x.couple(0, 0, 0), NONE);
        due("couple(16, HIGH, 0)", x.couple(16, HIGH, 0), NONE);
        TightRings y = full();
        due("the last of 780", y.couple(15, 779, 0), 39 * 39);
        due("couple(15, 780, 0)", y.couple(15, 780, 0), NONE);
    }

    private static long[] ringOf(TightRings x, int set) {
        long[] told = new long[10];
        for (int what = 0; what < 10; what++) told[what] = x.ring(set, what);
        return told;
    }

    private static void ring() {
        begin(28);
        dueAll("three lie on a circle", ringOf(of("a0,0;a4,0;a0,3;"), 1), 0, 1, 25, 4, 25, 4, 2, 1, 3, 2);
        // from (x, y) the square's corners and middle differ: least where the corners are alike
        dueAll("a square and its middle", ringOf(of("a0,0;a2,0;a2,2;a0,2;a1,1;"), 1), 2, 1, 0, 1, 2, 1, 1, 1, 1, 1);
        // no circle goes through all four; from (3/2, 3/2) two are at 5/2, two at 9/2
        dueAll("four", ringOf(of("a0,0;a2,0;a0,2;a3,3;"), 1), 2, 1, 5, 2, 9, 2, 3, 2, 3, 2);
        dueAll("far out", ringOf(of("a-100,-100;a100,-100;a0,100;"), 1), 0, 1, 15625, 1, 15625, 1, 0, 1, -25, 1);
        TightRings x = of("a0,0;a1,0;a2,1;b0,0;b1,1;b5,5;");
        due("ring(1, 10)", x.ring(1, 10), -1000);
        due("ring(1, -1)", x.ring(1, -1), -1000);
        due("in one line", x.ring(2, 0), -1000);
        due("ring(8, 0)", x.ring(8, 0), -1000);
        due("ring(0, 0)", x.ring(0, 0), -1000);
        due("ring(16, 0)", x.ring(16, 0), -1000);
        TightRings y = new TightRings();
        for (int i = 0; i < 12; i++) y.put(i, i * i % 7, 0);
        due("12 SPOTS are told", y.ring(1, 1) > 0, true);
        y.put(50, 50, 0);
        due("13 SPOTS", y.ring(1, 1), -1000);
        y.gone(12);
        y.put(0, 0, 0);
        due("13 POINTS at 12 SPOTS", y.ring(1, 1) > 0, true);
    }

    private static void two() {
        begin(29);
        TightRings x = of("a0,0;a4,0;a0,3;b7,7;c0,0;c0,1;d0,0;d2,0;d4,0;d6,0;");
        due("two(1, 0)", x.two(1, 0), 9);
        due("two(1, 1)", x.two(1, 1), 4);
        due("two(1, 2)", x.two(1, 2), 3);
        due("one SPOT", x.two(2, 0), NONE);
        due("two SPOTS: SIZE", x.two(4, 0), 0);
        due("two SPOTS: below", x.two(4, 1), 1);
        due("two SPOTS: the part", x.two(4, 2), 1);
        due("four in a line", x.two(8, 0), 1);
        due("four in a line: the part", x.two(8, 2), 3);
        due("the least bits", of("a0,0;a0,2;a2,0;a2,2;").two(1, 2), 3);
        due("of three like ones the first alone", of("a0,0;a1,0;a2,0;").two(1, 2), 1);
        due("two(1, 3)", x.two(1, 3), NONE);
        due("two(1, -1)", x.two(1, -1), NONE);
        due("two(0, 0)", x.two(0, 0), NONE);
        due("two(16, 0)", x.two(16, 0), NONE);
        TightRings y = new TightRings();
        for (int i = 0; i < 12; i++) y.put(i % 6 + 20 * (i / 6), 0, 0);
        due("12 SPOTS", y.two(1, 0), 25);
        due("12 SPOTS: the part", y.two(1, 2), 63);
        y.put(50, 50, 0);
        due("13 SPOTS", y.two(1, 0), NONE);
    }

    private static void box() {
        begin(30);
        TightRings x = of("a0,0;a4,0;a0,3;b1,1;b2,2;b3,3;c0,0;c2,1;c1,3;c-1,2;");
        due("box(1, 0)", x.box(1, 0), 12);
        due("box(1, 1)", x.box(1, 1), 1);
        due("box(1, 2)", x.box(1, 2), 0);
        due("in one line", x.box(2, 0), NONE);
        due("a square on its tip", x.box(4, 0), 5);
        due("its first corner", x.box(4, 2), 9);
        // (0,0) (5,1) (1,4): the sides have 26, 25, 17 squared; 19 is twice the area
        TightRings three = of("a0,0;a5,1;a1,4;");
        due("three: ROOM", three.box(1, 0), 19);
        due("three: below", three.box(1, 1), 1);
        due("box(1, 3)", x.box(1, 3), NONE);
        due("box(1, -1)", x.box(1, -1), NONE);
        due("box(8, 0)", x.box(8, 0), NONE);
        due("box(0, 0)", x.box(0, 0), NONE);
        due("box(16, 0)", x.box(16, 0), NONE);
        // the height over the side from (0,0) to (2,1), and what lies beyond its end
        TightRings blunt = of("a0,0;a2,1;a9,9;");
        due("blunt: ROOM", blunt.box(1, 0), 9);
        due("blunt: the corner ahead", blunt.box(1, 2), 2);
    }

    private static void meets() {
        begin(31);
        TightRings x = of("a0,0;a4,0;a0,4;b2,2;c3,3;d1,1;");
        due("on the rim", x.meets(1, 2), 1);
        due("outside", x.meets(1, 4), 0);
        due("inside", x.meets(8, 1), 1);
        due("with itself", x.meets(1, 1), 1);
        due("two SPOTS", x.meets(2, 4), 0);
        due("a line and a SPOT on it", x.meets(12, 2), 1);
        due("a SPOT behind a line's end", of("a0,0;a2,2;b3,3;").meets(1, 2), 0);
        due("lines that cross", of("a0,0;a4,4;b0,4;b4,0;").meets(1, 2), 1);
        due("lines side by side", of("a0,0;a4,4;b0,1;b4,5;").meets(1, 2), 0);
        due("one line, apart", of("a0,0;a4,4;b5,5;b9,9;").meets(1, 2), 0);
        due("one line, an end in common", of("a0,0;a4,4;b4,4;b9,9;").meets(1, 2), 1);
        due("apart along no side of the first", of("a0,0;a9,0;a0,9;b5,5;b9,9;b9,8;").meets(1, 2), 0);
        due("meets(1, 0)", x.meets(1, 0), NONE);
        due("meets(16, 1)", x.meets(16, 1), NONE);
        TightRings y = of("a0,0;");
        due("one without SPOTS", y.meets(1, 2), NONE);
        due("the other without SPOTS", y.meets(2, 1), NONE);
    }

    private static void fewer() {
        begin(32);
        TightRings x = of("a0,0;a6,0;a6,6;a0,6;a3,3;b7,7;");
        // SPOTS: (0,0) (0,6) (3,3) (6,0) (6,6)
        due("fewer(1, 1, 0)", x.fewer(1, 1, 0), 0);
        due("fewer(1, 1, 1)", x.fewer(1, 1, 1), 1);
        due("fewer(1, 1, 2)", x.fewer(1, 1, 2), 1);
        due("fewer(1, 2, 0)", x.fewer(1, 2, 0), 9);
        due("fewer(1, 2, 1)", x.fewer(1, 2, 1), 2);
        due("fewer(1, 2, 2)", x.fewer(1, 2, 2), 5);
        due("fewer(1, 3, 0)", x.fewer(1, 3, 0), 9);
        due("fewer(1, 3, 1)", x.fewer(1, 3, 1), 1);
        due("fewer(1, 3, 2)", x.fewer(1, 3, 2), 7);
        due("fewer(1, 5, 0)", x.fewer(1, 5, 0), 18);
        due("fewer(1, 5, 2)", x.fewer(1, 5, 2), 31);
        // three and four on the rims of two circles of SIZE 2
        due("the one with most SPOTS", of("a0,0;a2,0;a0,2;a9,0;a11,0;a11,2;a9,2;").fewer(1, 3, 2), 8 + 16 + 32 + 64);
        due("then the least bits", of("a0,0;a2,0;a0,2;a9,0;a11,0;a11,2;").fewer(1, 3, 2), 1 + 2 + 4);
        due("fewer(1, 0, 0)", x.fewer(1, 0, 0), NONE);
        due("fewer(1, 6, 0)", x.fewer(1, 6, 0), NONE);
        due("fewer(1, LOW, 0)", x.fewer(1, LOW, 0), NONE);
        due("fewer(1, 1, 3)", x.fewer(1, 1, 3), NONE);
        due("fewer(1, 1, -1)", x.fewer(1, 1, -1), NONE);
        due("fewer(2, 1, 2)", x.fewer(2, 1, 2), 1);
        due("fewer(4, 1, 0)", x.fewer(4, 1, 0), NONE);
        due("fewer(0, 1, 0)", x.fewer(0, 1, 0), NONE);
        due("fewer(16, 1, 0)", x.fewer(16, 1, 0), NONE);
        TightRings y = new TightRings();
        for (int i = 0; i < 12; i++) y.put(2 * i, 0, 0);
        due("all of 12", y.fewer(1, 12, 0), 121);
        due("all of 12: bits", y.fewer(1, 12, 2), 4095);
        y.put(50, 50, 0);
        due("13 SPOTS", y.fewer(1, 1, 0), NONE);
    }

    private static void worse() {
        begin(33);
        TightRings x = of("a0,0;a4,0;a0,3;b5,5;");
        due("worse(1, 0, -10, 0)", x.worse(1, 0, -10, 0), 169);
        due("worse(1, 0, -10, 1)", x.worse(1, 0, -10, 1), 4);
        due("worse(1, 0, -10, 2)", x.worse(1, 0, -10, 2), 1);
        due("inside it", x.worse(1, 1, 1, 0), 25);
        due("inside it: all", x.worse(1, 1, 1, 2), 2);
        due("at a SPOT", x.worse(2, 5, 5, 0), 0);
        due("at a SPOT: it", x.worse(2, 5, 5, 2), 1);
        due("by one", x.worse(2, 5, 7, 0), 1);
        due("the square's corner", x.worse(1, 4, 3, 0), 25);
        due("worse(1, 150, -150, 2)", x.worse(1, 150, -150, 2), 1);
        due("worse(1, 151, 0, 0)", x.worse(1, 151, 0, 0), NONE);
        due("worse(1, 0, -151, 0)", x.worse(1, 0, -151, 0), NONE);
        due("worse(1, 0, 0, 3)", x.worse(1, 0, 0, 3), NONE);
        due("worse(1, 0, 0, -1)", x.worse(1, 0, 0, -1), NONE);
        due("worse(4, 0, 0, 0)", x.worse(4, 0, 0, 0), NONE);
        due("worse(0, 0, 0, 0)", x.worse(0, 0, 0, 0), NONE);
        due("worse(16, 0, 0, 0)", x.worse(16, 0, 0, 0), NONE);
        due("no POINT came", x.is(0), 4);
        TightRings y = full();
        // from (0, 0) and (39, 0) to (-41, 0): the new one and the last one
        due("a 41st place", y.worse(15, -41, 0, 0), 1600);
    }

    private static void calm() {
        begin(34);
        TightRings x = of("a0,0;b21,0;pb-2,0;c5,5;");
        // at TICK t the two are 21 - 2 t apart: 1 at 10 and at 11
        due("calm(3, 0)", x.calm(3, 0), 10);
        due("calm(3, 1)", x.calm(3, 1), 1);
        due("calm(3, 2)", x.calm(3, 2), 4);
        x.tick(15);
        due("of all TICKS", x.calm(3, 0), 10);
        due("calm(4, 0)", x.calm(4, 0), 0);
        due("calm(4, 1)", x.calm(4, 1), 0);
        due("calm(4, 2)", x.calm(4, 2), 1);
        due("calm(3, 3)", x.calm(3, 3), NONE);
        due("calm(3, -1)", x.calm(3, -1), NONE);
        due("calm(8, 0)", x.calm(8, 0), NONE);
        due("calm(0, 0)", x.calm(0, 0), NONE);
        due("calm(16, 0)", x.calm(16, 0), NONE);
        due("is(1)", x.is(1), 15);
    }

    private static void reach() {
        begin(35);
        TightRings x = of("a0,0;a6,0;a6,6;a0,6;a3,3;b-7,4;");
        due("reach(1, 1, 1, 0)", x.reach(1, 1, 1, 0), 2);
        due("reach(1, 1, 1, 1)", x.reach(1, 1, 1, 1), 12);
        due("reach(1, 1, 1, 2)", x.reach(1, 1, 1, 2), 72);
        due("reach(1, 1, 1, 3)", x.reach(1, 1, 1, 3), 1);
        due("of like ones the first", x.reach(1, -5, 0, 0), 0);
        due("the number may be 0", x.reach(1, -5, 0, 1), 0);
        due("reach(1, 2, 1, 2)", x.reach(1, 2, 1, 2), 324);
        due("reach(1, 2, 1, 3)", x.reach(1, 2, 1, 3), 5);
        due("reach(2, 100, -100, 1)", x.reach(2, 100, -100, 1), -1100);
        due("reach(2, 100, -100, 2)", x.reach(2, 100, -100, 2), 0);
        due("reach(2, 100, -100, 3)", x.reach(2, 100, -100, 3), 1);
        due("reach(1, 0, 0, 0)", x.reach(1, 0, 0, 0), -1000);
        due("reach(1, 101, 0, 0)", x.reach(1, 101, 0, 0), -1000);
        due("reach(1, 0, -101, 0)", x.reach(1, 0, -101, 0), -1000);
        due("reach(1, 1, 1, 4)", x.reach(1, 1, 1, 4), -1000);
        due("reach(1, 1, 1, -1)", x.reach(1, 1, 1, -1), -1000);
        due("reach(4, 1, 1, 0)", x.reach(4, 1, 1, 0), -1000);
        due("reach(0, 1, 1, 0)", x.reach(0, 1, 1, 0), -1000);
        due("reach(16, LOW, HIGH, 0)", x.reach(16, LOW, HIGH, 0), -1000);
    }

    private static void whole() {
        begin(36);
        TightRings x = of("a0,0;a4,0;a0,3;b1,1;b7,4;c9,9;");
        due("whole(1, 0)", x.whole(1, 0), 8);
        due("whole(1, 1)", x.whole(1, 1), 3);
        due("in a line", x.whole(2, 0), 4);
        due("in a line: within", x.whole(2, 1), 0);
        due("one SPOT", x.whole(4, 0), 1);
        due("one SPOT: within", x.whole(4, 1), 0);
        due("whole(1, 2)", x.whole(1, 2), NONE);
        due("whole(1, -1)", x.whole(1, -1), NONE);
        due("whole(8, 0)", x.whole(8, 0), NONE);
        due("whole(0, 0)", x.whole(0, 0), NONE);
        due("whole(16, 0)", x.whole(16, 0), NONE);
        TightRings wide = of("a-100,-100;a100,-100;a100,100;a-100,100;");
        due("the widest", wide.whole(1, 0), 800);
        due("the widest: within", wide.whole(1, 1), 199 * 199);
    }

    private static void sees() {
        begin(37);
        TightRings x = of("a0,0;a6,0;a6,6;a0,6;b0,0;b1,1;c5,5;");
        due("one side", x.sees(1, 10, 3, 0), 1);
        due("it begins", x.sees(1, 10, 3, 1), 1);
        due("it ends", x.sees(1, 10, 3, 2), 2);
        due("two sides", x.sees(1, 10, 10, 0), 2);
        due("they begin", x.sees(1, 10, 10, 1), 1);
        due("they end", x.sees(1, 10, 10, 2), 3);
        due("the last and the first side", x.sees(1, -1, -1, 0), 2);
        due("they begin", x.sees(1, -1, -1, 1), 3);
        due("they end", x.sees(1, -1, -1, 2), 1);
        due("on the rim", x.sees(1, 6, 3, 0), 0);
        due("in line with a side", x.sees(1, 9, 6, 0), 1);
        due("none begins", x.sees(1, 3, 3, 1), NONE);
        due("none ends", x.sees(1, 3, 3, 2), NONE);
        due("the last side ends at the first corner", x.sees(1, -1, 3, 2), 0);
        due("sees(1, 300, -300, 0)", x.sees(1, 300, -300, 0), 2);
        due("sees(1, 301, 0, 0)", x.sees(1, 301, 0, 0), NONE);
        due("sees(1, 0, -301, 0)", x.sees(1, 0, -301, 0), NONE);
        due("in one line", x.sees(2, 5, 0, 0), NONE);
        due("one SPOT", x.sees(4, 5, 0, 0), NONE);
        due("sees(1, 0, 0, 3)", x.sees(1, 0, 0, 3), NONE);
        due("sees(1, 0, 0, -1)", x.sees(1, 0, 0, -1), NONE);
        due("sees(8, 0, 0, 0)", x.sees(8, 0, 0, 0), NONE);
        due("sees(0, 0, 0, 0)", x.sees(0, 0, 0, 0), NONE);
        due("sees(16, 0, 0, 0)", x.sees(16, 0, 0, 0), NONE);
    }

    private static void heaviest() {
        begin(38);
        TightRings x = of("a0,0;a2,0;b0,0;b0,4;c50,0;c50,4;");
        due("of one HEAP", x.heaviest(0), 2);
        due("of two HEAPS, of like ones the least", x.heaviest(1), 5);
        x.gone(1);
        x.put(50, -9, 3);
        due("of two HEAPS", x.heaviest(1), 10);
        due("of one POINT", of("d1,1;").heaviest(0), 8);
        due("of two HEAPS, one empty", of("d1,1;").heaviest(1), 9);
        due("all of SIZE 0", of("b1,1;c2,2;").heaviest(0), 2);
        due("heaviest(2)", x.heaviest(2), NONE);
        due("heaviest(-1)", x.heaviest(-1), NONE);
        due("without POINTS", new TightRings().heaviest(0), NONE);
        due("without POINTS", new TightRings().heaviest(1), NONE);
    }

    private static void deep() {
        begin(39);
        TightRings x = of("a0,0;a6,0;a6,6;a0,6;a3,3;b3,3;c1,0;c2,0;c5,0;d1,1;");
        due("the middle", x.deep(1, 3, 3), 3);
        due("a corner", x.deep(1, 0, 0), 1);
        due("outside", x.deep(1, 7, 7), 0);
        due("on a side, not at a SPOT", x.deep(1, 3, 0), 1);
        due("at its only SPOT", x.deep(8, 1, 1), 1);
        due("a line may be turned: in a line's middle", x.deep(4, 2, 0), 2);
        due("beside the line", x.deep(4, 2, 1), 0);
        due("behind its end", x.deep(4, 9, 0), 0);
        due("SPOTS count once", x.deep(3, 3, 3), 3);
        due("deep(1, 300, -300)", x.deep(1, 300, -300), 0);
        due("deep(1, 301, 0)", x.deep(1, 301, 0), NONE);
        due("deep(1, 0, -301)", x.deep(1, 0, -301), NONE);
        due("deep(0, 0, 0)", x.deep(0, 0, 0), NONE);
        due("deep(16, 0, 0)", x.deep(16, 0, 0), NONE);
        due("without SPOTS", new TightRings().deep(1, 0, 0), NONE);
    }

    private static void meetsAt() {
        begin(40);
        TightRings x = of("a0,0;a4,0;a0,4;b10,1;pb-1,0;c99,99;");
        // (10 - t, 1) lies in x + y <= 4 from TICK 7 on
        due("meetsAt(1, 2)", x.meetsAt(1, 2), 7);
        x.tick(20);
        due("of all TICKS", x.meetsAt(2, 1), 7);
        due("meetsAt(1, 1)", x.meetsAt(1, 1), 0);
        due("never", x.meetsAt(1, 4), NONE);
        due("without SPOTS", x.meetsAt(1, 8), NONE);
        due("meetsAt(0, 1)", x.meetsAt(0, 1), NONE);
        due("meetsAt(1, 16)", x.meetsAt(1, 16), NONE);
        due("at the last TICK", of("a0,0;b20,0;pb-1,0;").meetsAt(1, 2), 20);
    }

    private static void changes() {
        begin(41);
        // b runs from (10, 0) past a's (0, 0) and (5, 0): 0 and 2, then 0 and 1, then 2 and 1
        TightRings x = of("a0,0;a5,0;b10,0;pb-1,0;c3,3;");
        // from TICK 5 on b is at (5, 0) or between: the TIGHT ones are 0, 1; behind (0, 0) they are 1, 2
        due("changes(3)", x.changes(3), 2);
        x.tick(20);
        due("of all TICKS", x.changes(3), 2);
        due("changes(1)", x.changes(1), 0);
        due("changes(4)", x.changes(4), 0);
        due("changes(8)", x.changes(8), NONE);
        due("changes(0)", x.changes(0), NONE);
        due("changes(16)", x.changes(16), NONE);
        // at one SPOT at TICK 2 alone: 0 1, 0, 0 1
        due("there and back", of("a2,0;b0,0;pb1,0;").changes(3), 2);
    }

    private static void dueWritten(TightRings x, int set, String text) {
        due("write(" + set + ")", x.write(set), text.length());
        for (int i = 0; i < text.length(); i++) due("octet(" + i + ")", x.octet(i), text.charAt(i));
        due("octet(" + text.length() + ")", x.octet(text.length()), NONE);
    }

    private static void write() {
        begin(42);
        TightRings x = of("a0,0;a10,-9;a100,7;a5,0;b-100,-100;pb-3,3;c0,0;c0,-10;");
        dueWritten(x, 1, "0,0;10,-9;100,7;");
        x.tick(20);
        dueWritten(x, 2, "-160,-40;");
        dueWritten(x, 4, "0,-10;0,0;");
        due("write(8)", x.write(8), NONE);
        due("write(0)", x.write(0), NONE);
        due("write(16)", x.write(16), NONE);
        TightRings y = new TightRings();
        for (int i = 0; i < 40; i++) y.put(i - 20, (i - 20) * (i - 20) / 4, 0);
        due("a long one begins", y.write(1) > 100, true);
    }

    private static void octet() {
        begin(43);
        TightRings x = of("a-1,2;");
        due("octet(0) ahead of any", x.octet(0), NONE);
        x.write(1);
        due("octet(0)", x.octet(0), '-');
        due("octet(4)", x.octet(4), ';');
        due("octet(5)", x.octet(5), NONE);
        due("octet(-1)", x.octet(-1), NONE);
        due("octet(LOW)", x.octet(LOW), NONE);
        due("octet(HIGH)", x.octet(HIGH), NONE);
        x.moved(0, 3, 4);
        due("octet(0) of what was written", x.octet(0), '-');
        x.write(2);
        due("octet(0) after nothing was written", x.octet(0), '-');
        x.write(1);
        due("octet(0) of the latest", x.octet(0), '3');
        due("octet(4) of the latest", x.octet(4), NONE);
    }
}
