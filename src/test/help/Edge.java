import java.lang.reflect.InvocationTargetException;
import java.lang.reflect.Method;
import java.nio.file.Files;
import java.nio.file.Path;
import java.util.ArrayList;
import java.util.Arrays;
import java.util.HashMap;
import java.util.IdentityHashMap;
import java.util.List;
import java.util.Map;

/** What the edge tests share: calls by their names, answers that are due, and the document's words that were tested. */
final class Edge {
    static final int NONE = -1;
    static final int OTHER = -1000;
    static final int LOW = Integer.MIN_VALUE;
    static final int HIGH = Integer.MAX_VALUE;
    private static final Path DOCUMENT = Path.of("../shared/DOC.md");
    /** SETs that there are not: beside 1 .. 15, and others that have the bits of HEAPS, too. */
    private static final int[] NO_SETS = {0, 16, 17, 31, -1, -15, 257, LOW, LOW + 1, HIGH};
    /** Below 0 and far above any. */
    private static final int[] FAR_OFF = {-1, -2, LOW, HIGH};
    /** What an object answers after so many calls is free, so that no test may ask for it. */
    private static final int MOST_CALLS = 512;
    private static final Map<String, Method> methods = new HashMap<>();
    private static final Map<TightRings, Integer> used = new IdentityHashMap<>();
    private static final List<String[]> quotes = new ArrayList<>();
    private static String part = "";
    private static String quote = "";
    private static int checks = 0;
    private static int wrong = 0;

    private Edge() { }

    /** The checks from here on are of these words of the document, in a part of its Terms or in a promise. */
    static void says(String where, String words) {
        part = where;
        quote = words;
        quotes.add(new String[] {where, words});
        used.clear();
    }

    /** The answer of a call; true counts 1, false 0. */
    static long ask(TightRings x, String call, long... args) {
        if (used.merge(x, 1, Integer::sum) > MOST_CALLS) fault("more than " + MOST_CALLS + " calls of one object");
        Method method = methodOf(call);
        Class<?>[] types = method.getParameterTypes();
        Object[] values = new Object[args.length];
        for (int i = 0; i < args.length; i++) {
            if (types[i] == long.class) values[i] = args[i];
            else values[i] = Math.toIntExact(args[i]);
        }
        try {
            Object answer = method.invoke(x, values);
            return answer instanceof Boolean ? ((Boolean) answer ? 1 : 0) : ((Number) answer).longValue();
        } catch (InvocationTargetException thrown) {
            fault(told(call, args) + " threw " + thrown.getCause());
        } catch (IllegalAccessException closed) {
            fault(told(call, args) + " is not public");
        }
        return Long.MIN_VALUE;
    }

    private static Method methodOf(String call) {
        if (methods.isEmpty()) {
            for (Method method : TightRings.class.getMethods()) methods.put(method.getName(), method);
        }
        return methods.get(call);
    }

    private static String told(String call, long... args) {
        String list = Arrays.toString(args);
        return call + "(" + list.substring(1, list.length() - 1) + ")";
    }

    static void due(TightRings x, long want, String call, long... args) {
        long got = ask(x, call, args);
        checks++;
        if (got != want) fault(told(call, args) + " answered " + got + ", due is " + want);
    }

    /** No such SET, and SET 8 without SPOTS, whatever else is asked. */
    static void dueNoSet(TightRings x, long refusal, String call, long... rest) {
        long[] args = new long[rest.length + 1];
        System.arraycopy(rest, 0, args, 1, rest.length);
        for (int set : NO_SETS) {
            args[0] = set;
            due(x, refusal, call, args);
        }
        due(x, 0, "is", 7);
        args[0] = 8;
        due(x, refusal, call, args);
    }

    /** The last argument must be below most, and 0 at least. */
    static void dueNoWhat(TightRings x, long refusal, int most, String call, long... rest) {
        long[] args = Arrays.copyOf(rest, rest.length + 1);
        for (int what : FAR_OFF) {
            args[rest.length] = what;
            due(x, refusal, call, args);
        }
        for (int what = most; what < most + 3; what++) {
            args[rest.length] = what;
            due(x, refusal, call, args);
        }
    }

    /** The answers for 0, 1, .. as the last argument. */
    static void dueEach(TightRings x, long[] wants, String call, long... args) {
        long[] more = Arrays.copyOf(args, args.length + 1);
        for (int what = 0; what < wants.length; what++) {
            more[args.length] = what;
            due(x, wants[what], call, more);
        }
    }

    /** An answer that only has to be another one than the refusal. */
    static void dueOther(TightRings x, long refusal, String call, long... args) {
        long got = ask(x, call, args);
        checks++;
        if (got == refusal) fault(told(call, args) + " answered " + got);
    }

    static void same(String what, long[] got, long[] want) {
        checks++;
        if (!Arrays.equals(got, want)) fault(what + ": " + Arrays.toString(got) + ", due is " + Arrays.toString(want));
    }

    private static void fault(String what) {
        wrong++;
        System.out.println(part + " \"" + quote + "\": " + what);
    }

    static long[] answers(long... all) {
        return all;
    }

    /** Puts a text on the tape, its bytes alone. */
    static void tape(TightRings x, String text) {
        ask(x, "end", 0);
        for (int from = 0; from < text.length(); from += 20) feed(x, text.substring(from, Math.min(from + 20, text.length())));
        ask(x, "end", text.length());
    }

    /** Twenty bytes at most; what is missing is 0. */
    static long feed(TightRings x, String bytes) {
        long[] words = new long[5];
        for (int i = 0; i < bytes.length(); i++) words[i / 4] |= (long) bytes.charAt(i) << 24 - 8 * (i % 4);
        for (int i = 0; i < 5; i++) words[i] = (int) words[i];
        return ask(x, "feed", words);
    }

    static long read(TightRings x, String text) {
        tape(x, text);
        return ask(x, "text");
    }

    static void dueText(TightRings x, int items, String text) {
        checks++;
        long got = read(x, text);
        if (got != items) fault("text " + text + " answered " + got + ", due is " + items);
        due(x, NONE, "fault");
    }

    static void dueFault(TightRings x, int place, String text) {
        checks++;
        long got = read(x, text);
        if (got != NONE) fault("text " + text + " answered " + got);
        long at = ask(x, "fault");
        if (at != place) fault("the fault of " + text + " is at " + at + ", due is " + place);
    }

    static TightRings of(String text) {
        TightRings x = new TightRings();
        dueText(x, (int) text.chars().filter(sign -> sign == ';').count(), text);
        return x;
    }

    /** A right three of HEAP 0, and with HEAP 1 a box of 4 by 3; no POINT is of HEAPS 2 and 3. */
    static TightRings frame() {
        return of("a0,0;a4,0;a0,3;b4,3;");
    }

    /** POINTS 0 .. n - 1 at (0, 0), (1, 0), .. of HEAP 0. */
    static TightRings row(int n) {
        TightRings x = new TightRings();
        for (int k = 0; k < n; k++) due(x, k, "put", k, 0, 0);
        return x;
    }

    /** Fails if words were quoted that their part of the document has not, or if one of these parts has others that were not. */
    static void end(String... parts) throws Exception {
        String doc = plain(Files.readString(DOCUMENT));
        for (String part : parts) findUntested(part, partOf(doc, part));
        for (String[] words : quotes) {
            part = words[0];
            quote = words[1];
            if (!partOf(doc, part).contains(quote)) fault("the document has no such words");
        }
        System.out.println(quotes.size() + " sentences, " + checks + " checks, " + wrong + " not as due");
        if (wrong != 0) System.exit(1);
    }

    private static void findUntested(String name, String words) {
        boolean[] tested = new boolean[words.length()];
        for (String[] told : quotes) {
            int at = told[0].equals(name) ? words.indexOf(told[1]) : NONE;
            if (at >= 0) Arrays.fill(tested, at, at + told[1].length(), true);
        }
        part = name;
        for (int at = 0; at < words.length(); at++) {
            if (tested[at] || !Character.isLetterOrDigit(words.charAt(at))) continue;
            quote = "";
            int last = at;
            while (last < words.length() && !tested[last]) last++;
            fault("not tested: " + words.substring(at, last));
            at = last;
        }
    }

    /** A part of the Terms by its number as told (I to IV), a promise by its number, another part by its title. */
    private static String partOf(String doc, String name) {
        boolean isTerm = name.startsWith("I");
        boolean isPromise = Character.isDigit(name.charAt(0));
        String sign = isTerm ? "==== " + name + ". " : isPromise ? "#" + name + "# " : "## " + name + " ";
        if (!doc.contains(sign)) return "";
        int start = doc.indexOf(sign) + sign.length();
        int stop = doc.indexOf(isTerm ? name.equals("IV") ? "The constants:" : "====" : "## ", start);
        return stop < 0 ? "" : doc.substring(start, stop);
    }

    /** On one line, without the fences; each promise as its number and its words; III in two parts, the second from WORSE on. */
    private static String plain(String doc) {
        String fenceless = doc.replaceAll("```[a-z]*", " ").replaceAll("## Promise (\\d+): [^\\n]*\\s*`[^`]*`: ", "## #$1# ");
        return fenceless.replaceAll("\\s+", " ").replace(" WORSE: ", " ==== III b. WORSE: ") + " ## ";
    }
}
