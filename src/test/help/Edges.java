import java.io.IOException;
import java.lang.reflect.InvocationTargetException;
import java.lang.reflect.Method;
import java.nio.file.Files;
import java.nio.file.Path;
import java.util.ArrayList;
import java.util.HashMap;
import java.util.HashSet;
import java.util.List;
import java.util.Map;
import java.util.Set;
import java.util.regex.Matcher;
import java.util.regex.Pattern;

/**
 * What the tests of the document's edges share. A test quotes a sentence of the document and
 * makes calls, told as texts, on a new object: 512 at most, for what later calls answer is
 * free. To look at all that an object tells, the same calls are made again on other objects.
 */
abstract class Edges {
    /** The part of the document ahead of 'Promise 1'. */
    static final int TERMS = 0;
    private static final int PROMISES = 39;
    private static final int MOST_CALLS = 512;
    private static final Path DOCUMENT = Path.of("../shared/DOC.md");

    private static final Map<String, Method> METHODS = new HashMap<>();
    private static final Map<String, Call> CALLS = new HashMap<>();
    private static final String[] PARTS = new String[PROMISES + 1];
    private static final Set<String> SEEN_REFUSALS = new HashSet<>();
    private static final Set<Integer> SEEN_PARTS = new HashSet<>();

    private static TreePatches x;
    private static List<String> made;
    private static int part;
    private static String words;
    private static int sentences = 0;
    private static int wrong = 0;

    private static final class Call {
        final Method method;
        final Object[] numbers;

        Call(Method method, Object[] numbers) {
            this.method = method;
            this.numbers = numbers;
        }

        long on(TreePatches object) {
            try {
                return ((Number) method.invoke(object, numbers)).longValue();
            } catch (InvocationTargetException | IllegalAccessException thrown) {
                throw new IllegalStateException(method.getName(), thrown);
            }
        }
    }

    /** Asks what there is to ask once some calls have been made, on as many objects as it takes. */
    private static final class Again {
        private final List<String> ahead;
        private TreePatches object;
        private int calls;

        Again(List<String> ahead) {
            this.ahead = ahead;
        }

        long ask(String text) {
            if (object == null || calls >= MOST_CALLS) {
                if (ahead.size() >= MOST_CALLS) {
                    throw new IllegalStateException("no call is left to ask: " + words);
                }
                object = new TreePatches();
                for (String call : ahead) {
                    callOf(call).on(object);
                }
                calls = ahead.size();
            }
            calls++;
            return callOf(text).on(object);
        }
    }

    // ---- the document

    static void readDocument() throws IOException {
        for (Method method : TreePatches.class.getDeclaredMethods()) {
            METHODS.put(method.getName(), method);
        }
        String text = Files.readString(DOCUMENT).replaceAll("\\s+", " ");
        for (int i = 0; i <= PROMISES; i++) {
            int from = i == 0 ? 0 : text.indexOf("## Promise " + i + ":");
            int end = i == PROMISES ? text.indexOf("## Not promised") : text.indexOf("## Promise " + (i + 1) + ":");
            PARTS[i] = text.substring(from, end);
        }
    }

    /** Begins a test, on a new object, of what a sentence of the document says. */
    static void sentence(int number, String quoted) {
        part = number;
        words = quoted;
        sentences++;
        x = new TreePatches();
        made = new ArrayList<>();
        SEEN_PARTS.add(number);
        if (!PARTS[number].contains(quoted)) {
            fail("the document does not say that");
        }
    }

    /** Each number that a promise's own text refuses with must have been answered in one of its tests. */
    static void mustHaveSeenAllRefusals() {
        for (int number = 1; number <= PROMISES; number++) {
            words = "all of it";
            part = number;
            if (!SEEN_PARTS.contains(number)) {
                fail("no test");
            }
            String text = PARTS[number].replaceAll("\\(counted as [^)]*\\)|REFUSALS -1 to -7", "");
            String name = text.replaceAll("## Promise \\d+: (\\w+).*", "$1");
            Matcher refusal = Pattern.compile("(?<= )-\\d+").matcher(text);
            while (refusal.find()) {
                if (!SEEN_REFUSALS.contains(number + " " + name + " " + refusal.group())) {
                    fail("no test comes to its " + refusal.group());
                }
            }
        }
    }

    static void finish() {
        System.out.println(wrong == 0 ? sentences + " sentences hold" : wrong + " answers are not as due");
        if (wrong != 0) {
            System.exit(1);
        }
    }

    private static void fail(String what) {
        wrong++;
        System.out.println((part == TERMS ? "Terms" : "Promise " + part) + " \"" + words + "\": " + what);
    }

    // ---- calls

    private static Call callOf(String text) {
        return CALLS.computeIfAbsent(text, Edges::parse);
    }

    private static Call parse(String text) {
        int open = text.indexOf('(');
        Method method = METHODS.get(text.substring(0, open));
        String inside = text.substring(open + 1, text.length() - 1).trim();
        String[] told = inside.isEmpty() ? new String[0] : inside.split(",");
        Object[] numbers = new Object[told.length];
        for (int i = 0; i < told.length; i++) {
            long number = Long.parseLong(told[i].trim());
            boolean isLong = method.getParameterTypes()[i] == long.class;
            numbers[i] = isLong ? (Object) number : (Object) Math.toIntExact(number);
        }
        return new Call(method, numbers);
    }

    static void due(String text, long want) {
        same(text, call(text), want);
    }

    static long call(String text) {
        made.add(text);
        if (made.size() > MOST_CALLS) {
            fail("more than " + MOST_CALLS + " calls");
        }
        return callOf(text).on(x);
    }

    /** What a call would answer now; it isn't made on the object itself. */
    static void look(String text, long want) {
        same(text, new Again(made).ask(text), want);
    }

    private static void same(String text, long got, long want) {
        if (got != want) {
            fail(text + " answered " + got + ", due is " + want);
        }
    }

    private static void same(String text, String got, String want) {
        if (!got.equals(want)) {
            fail(text + " gives " + got + ", due is " + want);
        }
    }

    /** The call answers the number, it is counted once, and nothing else changes. */
    static void refused(String text, int number) {
        int counted = number < -10 ? number + 10 : number;
        List<String> before = everything();
        int[] counts = refusals();
        due(text, number);
        List<String> after = everything();
        if (text.startsWith("tree(") && number <= -6) {
            before.removeIf(line -> line.startsWith("fault()"));
            after.removeIf(line -> line.startsWith("fault()"));
        }
        for (int i = 0; i < Math.max(before.size(), after.size()); i++) {
            String was = i < before.size() ? before.get(i) : "nothing";
            String is = i < after.size() ? after.get(i) : "nothing";
            if (!was.equals(is)) {
                fail(text + " changed " + was + " to " + is);
                break;
            }
        }
        counts[-counted]++;
        int[] now = refusals();
        for (int n = 1; n <= 7; n++) {
            same("status(" + (10 + n) + ") behind " + text, now[n], counts[n]);
        }
        SEEN_REFUSALS.add(part + " " + text.substring(0, text.indexOf('(')) + " " + number);
    }

    static void nothingRefused() {
        int[] counts = refusals();
        for (int n = 1; n <= 7; n++) {
            same("status(" + (10 + n) + ")", counts[n], 0);
        }
    }

    private static int[] refusals() {
        Again again = new Again(made);
        int[] counts = new int[8];
        for (int n = 1; n <= 7; n++) {
            counts[n] = (int) again.ask("status(" + (10 + n) + ")");
        }
        return counts;
    }

    // ---- all that an object tells

    private static List<String> everything() {
        List<String> told = new ArrayList<>();
        tellAll(made, told);
        if (made.contains("image()")) {
            told.add("THE IMAGE:");
            tellAll(with("restore()"), told);
        }
        return told;
    }

    private static List<String> with(String call) {
        List<String> more = new ArrayList<>(made);
        more.add(call);
        return more;
    }

    private static long tell(Again again, String text, List<String> told) {
        long answer = again.ask(text);
        told.add(text + " " + answer);
        return answer;
    }

    private static void tellAll(List<String> calls, List<String> told) {
        Again again = new Again(calls);
        for (int what = 0; what <= 6; what++) {
            tell(again, "status(" + what + ")", told);
        }
        tell(again, "fault()", told);
        for (int s = 0; s < 8; s++) {
            if (tell(again, "holds(" + s + ")", told) >= 100) {
                tellRow(again, s, told);
            }
        }
        long trees = again.ask("status(0)");
        for (int t = 0; t < trees; t++) {
            told.add("TREE " + t + " " + treeText(again, t));
        }
        long patches = again.ask("status(1)");
        for (int p = 0; p < patches; p++) {
            told.add("EDITS of " + p + " " + editsText(again, p));
            told.add("CONFLICTS of " + p + " " + conflictsText(again, p));
            tell(again, "patchOf(" + p + ", 1)", told);
        }
        for (int p = 0; p < patches; p++) {
            again.ask("show(0, " + p + ")");
            for (int as = 0; as <= 3; as++) {
                told.add("PATCH " + p + " as " + as + " " + again.ask("says(0, " + as + ")"));
                again.ask("show(0, " + p + ")");
            }
        }
    }

    /** How long it is shows where the copying of no elements is refused. */
    private static void tellRow(Again again, int s, List<String> told) {
        int n = 0;
        while (n < 200 && again.ask("copy(" + s + ", " + s + ", " + (n + 1) + ", 0, 0)") == 1) {
            n++;
        }
        told.add("elements of " + s + ": " + n);
        for (int i = 0; i < n; i++) {
            tell(again, "element(" + s + ", " + i + ")", told);
        }
    }

    private static String treeText(Again again, int t) {
        StringBuilder text = new StringBuilder();
        long deep = 0;
        long count = again.ask("nodes(" + t + ")");
        for (int i = 0; i < count; i++) {
            long depth = again.ask("node(" + t + ", " + i + ", 5)");
            if (i > 0) {
                text.append(depth > deep ? "(" : ")".repeat((int) (deep - depth)) + ",");
            }
            text.append((char) again.ask("node(" + t + ", " + i + ", 1)"));
            text.append(again.ask("node(" + t + ", " + i + ", 0)"));
            deep = depth;
        }
        return text.append(")".repeat((int) deep)).toString();
    }

    /** N2 a>b, T3 c 1.0, G4 d 1.2, M5 1.0>2.1: PARENT and PLACE. */
    private static String editsText(Again again, int p) {
        StringBuilder text = new StringBuilder();
        long count = again.ask("patchOf(" + p + ", 0)");
        for (int i = 0; i < count; i++) {
            long[] e = new long[7];
            for (int what = 0; what <= 6; what++) {
                e[what] = again.ask("edit(" + p + ", " + i + ", " + what + ")");
            }
            text.append(i == 0 ? "" : " ").append("NTGM".charAt((int) e[0])).append(e[1]).append(':');
            if (e[0] == 0) {
                text.append((char) e[2]).append('>').append((char) e[3]);
            } else if (e[0] == 3) {
                text.append(e[3]).append('.').append(e[4]).append('>').append(e[5]).append('.').append(e[6]);
            } else {
                text.append((char) e[2]).append(e[3]).append('.').append(e[4]);
            }
        }
        return text.toString();
    }

    private static String conflictsText(Again again, int p) {
        StringBuilder text = new StringBuilder();
        for (int i = 0; i < 200; i++) {
            long place = again.ask("conflict(" + p + ", " + i + ", 0)");
            if (place < 0) {
                break;
            }
            text.append(i == 0 ? "" : " ").append(place).append(':');
            text.append(again.ask("conflict(" + p + ", " + i + ", 1)"));
        }
        return text.toString();
    }

    static void lookTree(int t, String want) {
        same("TREE " + t, treeText(new Again(made), t), want);
    }

    static void lookEdits(int p, String want) {
        same("EDITS of PATCH " + p, editsText(new Again(made), p), want);
    }

    static void lookConflicts(int p, String want) {
        same("CONFLICTS of PATCH " + p, conflictsText(new Again(made), p), want);
    }

    // ---- runs of calls that many tests make

    /** SHELF s comes to hold a ROW of bytes. */
    static void write(int s, String text) {
        due("row(" + s + ", 0, " + text.length() + ")", 1);
        for (int i = 0; i < text.length(); i++) {
            due("set(" + s + ", " + i + ", " + (int) text.charAt(i) + ")", 1);
        }
    }

    /** A new TREE of that number, by way of SHELF 7. */
    static void grown(int t, String text) {
        write(7, text);
        due("tree(7)", t);
    }

    static void faulty(String text, int fault) {
        write(7, text);
        refused("tree(7)", -6);
        due("fault()", fault);
    }

    /** a1(b2,..): n NODES, all but the ROOT in a row below it. */
    static String wide(int n) {
        StringBuilder text = new StringBuilder("a1(");
        for (int key = 2; key <= n; key++) {
            text.append(key == 2 ? "b" : ",b").append(key);
        }
        return text.append(')').toString();
    }

    /** TREE 0 with all 60 KEYS, and PATCH 0 that gave it the last 20. */
    static void grownSixty() {
        grown(0, "a1");
        StringBuilder text = new StringBuilder("a1(");
        for (int key = 41; key <= 60; key++) {
            text.append(key == 41 ? "c" : ",c").append(key);
        }
        grown(1, text.append(')').toString());
        due("difference(0, 1)", 0);
        due("drop(1)", 1);
        due("drop(0)", 0);
        grown(0, wide(40));
        due("apply(0, 0)", 60);
    }

    /** PATCHES, of a NAME each, until there are so many. */
    static void named(int patches) {
        for (int p = (int) new Again(made).ask("status(1)"); p < patches; p++) {
            due("hand(1, 122, 0)", p);
        }
    }
}
