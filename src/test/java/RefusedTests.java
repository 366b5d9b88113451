import java.util.ArrayList;
import java.util.List;

/** A refused call changes nothing, nor does one that only asks: beside an object without it all later answers are alike. */
public final class RefusedTests {
    private static final int NONE = Edge.NONE;
    private static final int OTHER = Edge.OTHER;
    private static final int LOW = Edge.LOW;
    private static final int HIGH = Edge.HIGH;
    private static final int EMPTY = 0;
    private static final int SOME = 1;
    private static final int FULL = 2;
    private static final int[] FAR = {101, -101, LOW, HIGH};
    private static final int[] FAST = {4, -4, LOW, HIGH};
    private static final int[] NO_HEAPS = {4, -1, LOW, HIGH};
    private static final int[] NO_SETS = {0, 16, 17, -1, LOW + 1, 8};
    /** Calls that ask about SET 1, with what is told last. */
    private static final String[] ASKED = {"spots 1", "spot 1 0 0", "spot 1 0 2", "circle 1 0", "circle 1 5", "tight 1 -1", "tight 1 0",
        "rim 1", "inside 1 3 3", "needed 1 1", "proof 1 6", "when 1 2", "hull 1 -1", "hull 1 0", "area 1", "layer 1 -1", "layer 1 0",
        "strip 1 0", "couple 1 0 0", "ring 1 0", "ring 1 9", "two 1 2", "box 1 0", "meets 1 3", "fewer 1 2 2", "worse 1 50 -50 0",
        "worse 1 50 -50 2", "calm 1 0", "calm 3 1", "reach 1 3 -7 1", "whole 1 0", "sees 1 -90 80 0", "sees 1 -90 80 1", "heaviest 0",
        "heaviest 1", "deep 1 1 1", "meetsAt 1 2", "meetsAt 1 4", "changes 3", "changes 1", "is 3", "point 0 3", "fault", "octet 0"};

    public static void main(String[] args) throws Exception {
        refusedDeeds();
        refusedTapes();
        refusedTexts();
        refusedBack();
        refusedSets();
        refusedOthers();
        askedOnly();
        askedAgain();
        askedOfAnotherSet();
        anyArguments();
        lastCall();
        Edge.end();
    }

    private static TightRings made(int state) {
        TightRings x = new TightRings();
        if (state == SOME) {
            Edge.read(x, "a0,0;a4,0;a0,3;b40,3;pa1,1;pb-3,0;");
            Edge.ask(x, "moved", 0, -1, -2);
            Edge.ask(x, "put", 9, 9, 2);
            Edge.ask(x, "gone", 4);
            Edge.ask(x, "tick", 2);
            Edge.ask(x, "back");
            Edge.ask(x, "tick", 3);
            Edge.read(x, "a1");
            Edge.ask(x, "write", 1);
            Edge.tape(x, "c7,-7;pc2,2;");
        }
        if (state == FULL) {
            for (int k = 0; k < 40; k++) Edge.ask(x, "put", 2 * k - 40, k * k % 19, k % 3);
            Edge.read(x, "x");
            Edge.ask(x, "write", 7);
            StringBuilder text = new StringBuilder("pa-0,-1;pb-1,-0;");
            while (text.length() < 400) text.append("pc0,0;");
            Edge.tape(x, text.toString());
        }
        return x;
    }

    /** What an object answers to all kinds of calls, till its tape is read and all its DEEDS are taken back. */
    private static long[] told(TightRings x) {
        List<Long> all = new ArrayList<>();
        for (int what = 0; what < 8; what++) all.add(Edge.ask(x, "is", what));
        all.add(Edge.ask(x, "fault"));
        for (int k = 0; k < 40; k++) all.add(Edge.ask(x, "point", k, 2));
        for (int i = 0; i < 25; i++) all.add(Edge.ask(x, "point", i / 5, i % 5));
        for (int k = 0; k < 30; k++) all.add(Edge.ask(x, "octet", k));
        for (String call : ASKED) all.add(asked(x, call));
        all.add(Edge.ask(x, "text"));
        all.add(Edge.ask(x, "fault"));
        for (int deed = 0; deed < 22; deed++) {
            all.add(Edge.ask(x, "is", 0));
            all.add(Edge.ask(x, "is", 1));
            for (int k = 0; k < 5; k++) all.add(Edge.ask(x, "point", k, 3 + k % 2));
            all.add(Edge.ask(x, "back"));
        }
        return all.stream().mapToLong(answer -> answer).toArray();
    }

    private static long asked(TightRings x, String call) {
        String[] words = call.split(" ");
        long[] args = new long[words.length - 1];
        for (int i = 0; i < args.length; i++) args[i] = Long.parseLong(words[i + 1]);
        return Edge.ask(x, words[0], args);
    }

    /** All ahead of a call is forgotten, so that there are calls enough for what is told behind it. */
    private static void refused(int state, long refusal, String call, long... args) {
        TightRings tried = made(state);
        Edge.due(tried, refusal, call, args);
        Edge.same("after " + call + " in state " + state, told(tried), told(made(state)));
    }

    private static void refused(long refusal, String call, long... args) {
        for (int state = EMPTY; state <= FULL; state++) refused(state, refusal, call, args);
    }

    private static void refusedDeeds() {
        Edge.says("IV", "DEEDS: put(), gone(), moved(), text(), pace(), tick(), each that was done;");
        for (int far : FAR) {
            refused(NONE, "put", far, 0, 0);
            refused(NONE, "put", 0, far, 0);
            refused(0, "moved", 0, far, 0);
            refused(0, "moved", 0, 0, far);
        }
        for (int heap : NO_HEAPS) {
            refused(NONE, "put", 0, 0, heap);
            refused(0, "pace", heap, 0, 0);
        }
        for (int fast : FAST) {
            refused(0, "pace", 0, fast, 0);
            refused(0, "pace", 0, 0, fast);
        }
        for (int t : new int[] {21, -1, LOW, HIGH}) refused(NONE, "tick", t);
        for (int k : new int[] {40, -1, LOW, HIGH, 64}) {
            refused(0, "gone", k);
            refused(0, "moved", k, 0, 0);
        }
        refused(FULL, NONE, "put", 0, 0, 0);
        refused(SOME, 0, "gone", 4);
        refused(SOME, 0, "moved", 4, 0, 0);
        refused(EMPTY, 0, "gone", 0);
        refused(EMPTY, 0, "moved", 0, 0, 0);
    }

    private static void refusedTapes() {
        Edge.says("3", "NONE, and nothing is done, if it has not so many, or n is below 0.");
        for (int n : new int[] {-1, LOW, HIGH, 401}) refused(NONE, "end", n);
        refused(EMPTY, NONE, "end", 1);
        refused(SOME, NONE, "end", 13);
        Edge.says("2", "NONE, and none come, if there would be more than 400.");
        refused(FULL, NONE, "feed", 0x61312C32, 0x3B61312C, 0x323B6131, 0x2C323B61, 0x312C323B);
    }

    /** But for the tape, that is empty then, and the FAULT's place. */
    private static void refusedTexts() {
        Edge.says("I", "All the text comes, or nothing of it.");
        String[] texts = {"a5,5;b6,6;pa3,3;pb2,2;x", "pa3,3;pb2,2;a5,5;a5,5", "c1,1;a101,0;", "pb2,2;b0,0000;", "pc4,0;", "a1,1;pd1,1;e"};
        for (String text : texts) {
            for (int state = EMPTY; state <= FULL; state++) {
                TightRings tried = made(state);
                TightRings plain = made(state);
                Edge.read(tried, text);
                Edge.read(plain, "x");
                Edge.dueOther(tried, NONE, "fault");
                Edge.tape(tried, "x");
                Edge.tape(plain, "x");
                Edge.due(tried, NONE, "text");
                Edge.due(plain, NONE, "text");
                Edge.same("after the text " + text, told(tried), told(plain));
            }
        }
        TightRings tried = made(FULL);
        TightRings plain = made(FULL);
        Edge.read(tried, "pa3,3;a1,1;");
        Edge.read(plain, "pa3,3;?");
        Edge.same("no number is left", told(tried), told(plain));
    }

    private static void refusedBack() {
        Edge.says("11", "NONE: none.");
        refused(EMPTY, NONE, "back");
        TightRings tried = made(SOME);
        TightRings plain = made(SOME);
        for (int left = 4; left >= 0; left--) Edge.due(tried, left, "back");
        for (int left = 4; left >= 0; left--) Edge.due(plain, left, "back");
        Edge.due(tried, NONE, "back");
        Edge.due(tried, NONE, "back");
        Edge.same("after back() of none", told(tried), told(plain));
    }

    private static void refusedSets() {
        Edge.says("I", "A SET: POINTS of HEAPS told as bits (1 to 15).");
        for (String call : ASKED) {
            String[] words = call.split(" ");
            if (words.length < 2 || !words[1].equals("1") || words[0].equals("heaviest")) continue;
            boolean mayBeBelow = words[0].equals("spot") || words[0].equals("circle") || words[0].equals("ring") || words[0].equals("reach");
            long refusal = mayBeBelow ? OTHER : NONE;
            for (int set : NO_SETS) {
                if (set == 8 && words[0].equals("spots")) continue;
                long[] args = new long[words.length - 1];
                args[0] = set;
                for (int i = 1; i < args.length; i++) args[i] = Long.parseLong(words[i + 1]);
                refused(SOME, refusal, words[0], args);
            }
        }
        refused(NONE, "write", 0);
        refused(NONE, "write", 16);
        refused(NONE, "write", 8);
    }

    private static void refusedOthers() {
        Edge.says("Not promised", "Nothing is promised beyond the answers and state changes described above,");
        refused(OTHER, "point", 40, 0);
        refused(OTHER, "point", 0, 5);
        refused(NONE, "is", 8);
        refused(OTHER, "spot", 1, 40, 0);
        refused(OTHER, "circle", 1, 6);
        refused(NONE, "tight", 1, 4);
        refused(NONE, "inside", 1, 301, 0);
        refused(NONE, "needed", 1, 40);
        refused(NONE, "proof", 1, 1L << 40);
        refused(NONE, "proof", 1, 0);
        refused(NONE, "when", 1, -1);
        refused(NONE, "hull", 1, -2);
        refused(NONE, "layer", 1, -2);
        refused(NONE, "strip", 1, 3);
        refused(NONE, "couple", 1, 780, 0);
        refused(OTHER, "ring", 1, 10);
        refused(FULL, OTHER, "ring", 7, 0);
        refused(FULL, NONE, "two", 7, 0);
        refused(FULL, NONE, "fewer", 7, 1, 0);
        refused(NONE, "two", 1, 3);
        refused(NONE, "box", 1, 3);
        refused(NONE, "fewer", 1, 0, 0);
        refused(NONE, "worse", 1, 151, 0, 0);
        refused(NONE, "calm", 1, 3);
        refused(OTHER, "reach", 1, 0, 0, 0);
        refused(NONE, "whole", 1, 2);
        refused(NONE, "sees", 1, 301, 0, 0);
        refused(NONE, "heaviest", 2);
        refused(NONE, "deep", 1, 0, -301);
        refused(NONE, "octet", 400);
    }

    private static void askedOnly() {
        Edge.says("Not promised", "Nothing is promised beyond the answers and state changes described above,");
        for (String call : ASKED) {
            for (int state = EMPTY; state <= FULL; state++) {
                TightRings tried = made(state);
                asked(tried, call);
                asked(tried, call.replace(" 1", " 7"));
                Edge.same("after " + call + " in state " + state, told(tried), told(made(state)));
            }
        }
        // what was written is another thing then, and nothing else
        TightRings tried = made(SOME);
        Edge.ask(tried, "write", 2);
        Edge.ask(tried, "write", 1);
        Edge.same("after write()", told(tried), told(made(SOME)));
    }

    /** Each pair of questions, the second one beside an object that was asked nothing ahead. */
    private static void askedAgain() {
        Edge.says("Not promised", "Nothing is promised beyond the answers and state changes described above,");
        for (String ahead : ASKED) {
            TightRings tried = made(SOME);
            TightRings plain = made(SOME);
            List<Long> got = new ArrayList<>();
            List<Long> want = new ArrayList<>();
            for (String call : ASKED) {
                asked(tried, ahead.replace(" 1", " 3"));
                got.add(asked(tried, call));
                want.add(asked(plain, call));
            }
            Edge.same("after " + ahead, got.stream().mapToLong(v -> v).toArray(), want.stream().mapToLong(v -> v).toArray());
        }
    }

    /** What is found of one SET must not be told of another one: HEAP 0 lies far apart, HEAP 1 close together. */
    private static void askedOfAnotherSet() {
        Edge.says("Not promised", "Nothing is promised beyond the answers and state changes described above,");
        String text = "a-100,-90;a90,-80;a70,95;a-60,40;a-20,-70;b3,3;b5,4;b4,6;b4,4;b9,1;pb1,-1;";
        for (String ahead : ASKED) {
            for (String call : ASKED) {
                TightRings tried = Edge.of(text);
                TightRings plain = Edge.of(text);
                asked(tried, ahead.replace(" 1", " 2"));
                Edge.same(call + " after " + ahead, Edge.answers(asked(tried, call)), Edge.answers(asked(plain, call)));
                asked(tried, ahead);
                asked(plain, call.replace(" 1", " 2"));
                long[] got = Edge.answers(asked(tried, call.replace(" 1", " 2")));
                Edge.same(call + " of SET 2 after " + ahead, got, Edge.answers(asked(plain, call.replace(" 1", " 2"))));
            }
        }
    }

    /** An answer for all arguments, each one of these beside each other: none of them throws. */
    private static void anyArguments() throws Exception {
        Edge.says("Not promised", "Nothing is promised beyond the answers and state changes described above,");
        long[] values = {LOW, -1, 0, 1, 15, 39, 301, HIGH};
        for (java.lang.reflect.Method method : TightRings.class.getDeclaredMethods()) {
            if (!java.lang.reflect.Modifier.isPublic(method.getModifiers())) continue;
            int arguments = method.getParameterCount();
            int kinds = arguments == 5 ? 4 : values.length;
            int combinations = (int) Math.pow(kinds, arguments);
            for (int state = EMPTY; state <= FULL; state++) {
                TightRings x = made(state);
                for (int c = 0; c < combinations; c++) {
                    if (c % 300 == 299) x = made(state);
                    long[] args = new long[arguments];
                    for (int i = 0, left = c; i < arguments; i++, left /= kinds) args[i] = values[left % kinds];
                    Edge.dueOther(x, Long.MIN_VALUE, method.getName(), args);
                }
            }
        }
    }

    private static void lastCall() {
        Edge.says("What it is", "An object is used for at most 512 calls after it has been made;");
        TightRings ticks = new TightRings();
        for (int call = 0; call < 511; call++) Edge.due(ticks, call == 0 ? 0 : (call - 1) % 21, "tick", call % 21);
        Edge.due(ticks, 19, "back");
        TightRings points = new TightRings();
        for (int call = 0; call < 256; call++) {
            Edge.due(points, 0, "put", call % 100, 0, 0);
            if (call < 255) Edge.due(points, 1, "gone", 0);
            else Edge.due(points, 20, "is", 2);
        }
        for (String call : ASKED) {
            TightRings x = made(SOME);
            long first = asked(x, call);
            for (int i = 0; i < 480; i++) Edge.same(call, Edge.answers(asked(x, call)), Edge.answers(first));
        }
    }
}
