import java.lang.reflect.Method;
import java.util.ArrayList;
import java.util.Arrays;
import java.util.Collections;
import java.util.HashMap;
import java.util.List;
import java.util.Map;
import java.util.Random;

/**
 * Long runs of drawn calls, each answer held against a plain second model of the document,
 * which has recursion, exceptions and linked nodes where the program has none.
 */
public final class ModelTest {
    private static final int RUNS = 3000;
    private static final int CALLS = 512;
    private static final Integer[] WILD = {Integer.MIN_VALUE, Integer.MIN_VALUE + 1, -12, -2, -1, 0, 1, 2, 3, 4, 6, 7,
        8, 15, 16, 59, 60, 61, 79, 80, 81, 97, 119, 120, 160, 161, Integer.MAX_VALUE - 1, Integer.MAX_VALUE};
    private static final Map<String, Method> PROGRAM = methodsOf(TreePatches.class);
    private static final Map<String, Method> MODEL = methodsOf(Model.class);

    private final Random random;
    private final TreePatches program = new TreePatches();
    private final Model model = new Model();
    private final List<String> log = new ArrayList<>();
    private int left = CALLS;
    private boolean failed = false;
    /** In such a run many a number is one that hardly may be. */
    private final boolean wild;

    private ModelTest(long seed) {
        random = new Random(seed);
        wild = seed % 10 == 9;
    }

    public static void main(String[] args) throws Exception {
        Map<String, Integer> seen = new HashMap<>();
        for (int run = 0; run < RUNS; run++) {
            ModelTest test = new ModelTest(run);
            test.run(run);
            if (test.failed) {
                System.out.println("run " + run + ":\n" + String.join("\n", test.log));
                System.exit(1);
            }
            test.model.seen.forEach((what, count) -> seen.merge(what, count, Integer::sum));
        }
        List<String> wanted = List.of("conflict 1", "conflict 2", "conflict 3", "conflict 4", "conflict 5",
                "conflict 6", "left out 0", "left out 1", "left out 2", "left out 3", "misfit 0", "misfit 1",
                "misfit 2", "misfit 3", "applied", "vanished", "joined", "too long", "draw of 2");
        for (String what : wanted) {
            if (seen.getOrDefault(what, 0) < 20) {
                System.out.println("the runs hardly come to: " + what + " " + seen.get(what));
                System.exit(1);
            }
        }
        System.out.println(RUNS + " runs are as the model has them");
    }

    private static Map<String, Method> methodsOf(Class<?> type) {
        Map<String, Method> methods = new HashMap<>();
        for (Method method : type.getDeclaredMethods()) {
            if (java.lang.reflect.Modifier.isPublic(method.getModifiers())) {
                methods.put(method.getName(), method);
            }
        }
        return methods;
    }

    // ---- drawing calls

    private void run(int number) throws Exception {
        int style = number % 4;
        while (left > 0 && !failed) {
            switch (random.nextInt(style == 0 ? 8 : 14)) {
                case 0: case 1: drawShelfCall(); break;
                case 2: drawTree(style); break;
                case 3: drawTreeQuestion(); break;
                case 4: drawPatchQuestion(); break;
                case 5: case 6: drawPatch(); break;
                case 7: drawState(); break;
                case 8: case 9: drawPatch(); break;
                case 10: drawChange(); break;
                case 11: drawPatchQuestion(); break;
                case 12: drawChange(); break;
                default: askEdits(); break;
            }
        }
    }

    private int upTo(int n) {
        return random.nextInt(n + 1);
    }

    /** Mostly one that may be. */
    private int number(int count) {
        int die = random.nextInt(40);
        if (die == 0) {
            return new int[] {-1, -2, count, count + 1, 100, Integer.MIN_VALUE, Integer.MAX_VALUE}[random.nextInt(7)];
        }
        return count == 0 ? 0 : random.nextInt(count);
    }

    private int tree() {
        return number(model.trees.size());
    }

    private int otherThan(int t) {
        int count = model.trees.size();
        return count < 2 || t < 0 || t >= count ? tree() : (t + 1 + random.nextInt(count - 1)) % count;
    }

    private int patch() {
        return number(model.patches.size());
    }

    private int shelf() {
        return number(8);
    }

    private int key(int t) {
        if (t >= 0 && t < model.trees.size() && random.nextInt(8) > 0) {
            List<Node> order = model.trees.get(t).order();
            return order.get(random.nextInt(order.size())).key;
        }
        return random.nextInt(64) - 1;
    }

    private int small() {
        return random.nextInt(12) == 0 ? random.nextInt(200) - 20 : random.nextInt(6);
    }

    private void drawShelfCall() throws Exception {
        int s = shelf();
        switch (random.nextInt(12)) {
            case 0: call("row", s, random.nextInt(10) == 0 ? number(4) : random.nextInt(4), rowSize()); break;
            case 1: case 2: call("set", s, small(), random.nextLong()); break;
            case 3: call("copy", s, shelf(), small(), small(), small()); break;
            case 4: call("copy", s, s, small(), small(), small()); break;
            case 5: call("element", s, small()); break;
            case 6: case 7: call("show", s, random.nextInt(5) == 0 ? -1 : patch()); break;
            case 8: call("holds", s); break;
            case 9: case 10: call("says", s, number(4)); break;
            default: call("judge", s, tree(), random.nextInt(6) == 0 ? random.nextInt(70) - 3 : random.nextInt(8)); break;
        }
    }

    private int rowSize() {
        switch (random.nextInt(8)) {
            case 0: return -random.nextInt(3);
            case 1: return 158 + random.nextInt(5);
            case 2: return 55 + random.nextInt(10);
            default: return random.nextInt(9);
        }
    }

    private void drawTree(int style) throws Exception {
        if (model.trees.size() < 2 || random.nextInt(3) == 0) {
            int most = style == 1 ? 2 : style == 2 ? 6 : 12;
            int count = style == 3 ? 5 + random.nextInt(3) : 1 + random.nextInt(most);
            StringBuilder text = new StringBuilder(drawText(count, style == 3));
            if (random.nextInt(5) == 0) {
                spoil(text);
            }
            readText(text.toString());
        } else if (random.nextInt(6) == 0) {
            call("tree", shelf());
            call("fault");
        } else if (random.nextInt(4) == 0) {
            call("drop", random.nextInt(3) == 0 ? tree() : model.trees.size() - 1);
        } else {
            readText(textOf(model.trees.get(random.nextInt(model.trees.size())).root));
        }
    }

    private void readText(String text) throws Exception {
        if (text.length() > 160 || text.length() + 3 > left) {
            return;
        }
        int s = random.nextInt(8);
        int sort = random.nextInt(4);
        call("row", s, sort, text.length());
        for (int i = 0; i < text.length(); i++) {
            long more = sort == 3 ? (long) random.nextInt(3) << 32 : 0;
            call("set", s, i, text.charAt(i) + more);
        }
        call("tree", s);
        call("fault");
    }

    private String drawText(int count, boolean few) {
        List<Integer> keys = new ArrayList<>();
        int highest = few ? 7 : new int[] {60, 14, 7}[random.nextInt(3)];
        for (int key = 2; key <= highest; key++) {
            keys.add(key);
        }
        Collections.shuffle(keys, random);
        Node root = new Node(random.nextInt(10) == 0 ? keys.remove(0) : 1, label());
        List<Node> all = new ArrayList<>(List.of(root));
        int shape = random.nextInt(3);
        for (int i = 1; i < count && !keys.isEmpty(); i++) {
            int parent = shape == 0 ? random.nextInt(all.size()) : shape == 1 ? 0 : all.size() - 1;
            Node node = new Node(keys.remove(0), label());
            Node over = all.get(parent);
            node.parent = over;
            over.children.add(random.nextInt(over.children.size() + 1), node);
            all.add(node);
        }
        return textOf(root);
    }

    private int label() {
        return 'a' + random.nextInt(random.nextInt(4) == 0 ? 26 : 3);
    }

    private static String textOf(Node node) {
        StringBuilder text = new StringBuilder().append((char) node.label).append(node.key);
        for (int i = 0; i < node.children.size(); i++) {
            text.append(i == 0 ? "(" : ",").append(textOf(node.children.get(i)));
        }
        return text.append(node.children.isEmpty() ? "" : ")").toString();
    }

    private void spoil(StringBuilder text) {
        String signs = "(),ab01256789 ";
        int at = random.nextInt(text.length());
        switch (random.nextInt(3)) {
            case 0: text.deleteCharAt(at); break;
            case 1: text.insert(at, signs.charAt(random.nextInt(signs.length()))); break;
            default: text.setCharAt(at, signs.charAt(random.nextInt(signs.length()))); break;
        }
    }

    private void drawTreeQuestion() throws Exception {
        int t = tree();
        switch (random.nextInt(9)) {
            case 0: call("nodes", t); break;
            case 1: case 2: call("node", t, small(), number(7)); break;
            case 3: call("find", t, key(t)); break;
            case 4: call("child", t, key(t), small()); break;
            case 5: call("above", t, key(t), key(t)); break;
            case 6: call("same", t, tree()); break;
            case 7: call("far", t, tree()); break;
            default: call("moves", t, tree()); break;
        }
    }

    private void drawPatchQuestion() throws Exception {
        int p = patch();
        switch (random.nextInt(6)) {
            case 0: call("patchOf", p, number(6)); break;
            case 1: call("edit", p, small(), number(7)); break;
            case 2: call("touched", p, number(2)); break;
            case 3: call("conflict", p, random.nextInt(3), number(2)); break;
            default: call("sticks", p, tree()); break;
        }
    }

    private void askEdits() throws Exception {
        int p = patch();
        if (p < 0 || p >= model.patches.size()) {
            return;
        }
        int size = model.patches.get(p).edits.size();
        int from = size == 0 ? 0 : random.nextInt(size);
        for (int i = from; i < Math.min(size, from + 3); i++) {
            for (int what = 0; what <= 6; what++) {
                call("edit", p, i, what);
            }
        }
    }

    private void drawPatch() throws Exception {
        if (model.patches.size() == 16 && random.nextInt(3) > 0) {
            call("forget");
            return;
        }
        int t = tree();
        switch (random.nextInt(10)) {
            case 0: call("difference", t, random.nextInt(3) == 0 ? tree() : otherThan(t)); break;
            case 1: call("difference", t, otherThan(t)); call("rebase", model.patches.size() - 1, tree()); break;
            case 2: call("invert", patch()); break;
            case 3: call("behind", patch(), patch()); break;
            case 4: behindItsInverse(); break;
            case 5: call("squeeze", patch()); break;
            case 6: call("rebase", patch(), t); break;
            case 7: call("rebase", patch(), t); break;
            case 8: call("hand", key(t), random.nextInt(20) == 0 ? 90 + random.nextInt(40) : label(), t); break;
            default: call("put", t, key(t), key(t), random.nextInt(5) - (random.nextInt(9) == 0 ? 2 : 0)); break;
        }
    }

    private void behindItsInverse() throws Exception {
        int p = patch();
        call("invert", p);
        call("behind", p, model.patches.size() - 1);
        call("squeeze", model.patches.size() - 1);
    }

    private void drawChange() throws Exception {
        int t = tree();
        switch (random.nextInt(5)) {
            case 0: call("days", t, random.nextInt(12) == 0 ? number(61) : 1 + random.nextInt(4)); break;
            case 1: if (random.nextInt(4) == 0) { call("days", t, 60); } break;
            default: call("apply", patch(), t); break;
        }
    }

    private void drawState() throws Exception {
        switch (random.nextInt(7)) {
            case 0: call("seed", random.nextInt()); break;
            case 1: call("image"); break;
            case 2: if (random.nextInt(3) == 0) { call("restore"); } break;
            case 3: call("forget"); break;
            default: call("status", random.nextInt(20) - 1); break;
        }
    }

    private void call(String name, Object... args) throws Exception {
        if (left <= 0 || failed) {
            return;
        }
        left--;
        if (wild && args.length > 0 && random.nextInt(4) == 0) {
            args[random.nextInt(args.length)] = WILD[random.nextInt(WILD.length)];
        }
        Method method = PROGRAM.get(name);
        Object[] fitted = args.clone();
        for (int i = 0; i < args.length; i++) {
            boolean isLong = method.getParameterTypes()[i] == long.class;
            fitted[i] = isLong ? (Object) ((Number) args[i]).longValue() : (Object) ((Number) args[i]).intValue();
        }
        long want = ((Number) MODEL.get(name).invoke(model, fitted)).longValue();
        long got = ((Number) method.invoke(program, fitted)).longValue();
        log.add(name + Arrays.toString(args) + " " + got + (got == want ? "" : ", due is " + want));
        failed = got != want;
    }

    // ---- the model

    private static final class Node {
        final int key;
        int label;
        Node parent;
        final List<Node> children = new ArrayList<>();

        Node(int key, int label) {
            this.key = key;
            this.label = label;
        }

        int place() {
            return parent == null ? 0 : parent.children.indexOf(this);
        }

        int depth() {
            return parent == null ? 0 : parent.depth() + 1;
        }

        boolean isOrHasBelow(Node node) {
            return node == this || node != null && isOrHasBelow(node.parent);
        }

        void fill(List<Node> order) {
            order.add(this);
            for (Node child : children) {
                child.fill(order);
            }
        }

        Node copy(Node above) {
            Node copy = new Node(key, label);
            copy.parent = above;
            for (Node child : children) {
                copy.children.add(child.copy(copy));
            }
            return copy;
        }
    }

    private static final class Grown {
        Node root;

        Grown(Node root) {
            this.root = root;
        }

        Grown copy() {
            return new Grown(root.copy(null));
        }

        List<Node> order() {
            List<Node> order = new ArrayList<>();
            root.fill(order);
            return order;
        }

        Node get(int key) {
            for (Node node : order()) {
                if (node.key == key) {
                    return node;
                }
            }
            return null;
        }

        boolean fits(int[] e) {
            Node node = get(e[1]);
            Node parent = get(e[3]);
            switch (e[0]) {
                case 0: return node != null && node.label == e[2];
                case 1: return node != null && node.children.isEmpty() && node.label == e[2]
                        && parent != null && node.parent == parent && node.place() == e[4];
                case 2: return node == null && parent != null && e[4] >= 0 && e[4] <= parent.children.size()
                        && order().size() < 80;
                default:
                    Node to = get(e[5]);
                    if (node == null || parent == null || node.parent != parent || node.place() != e[4]
                            || to == null || node.isOrHasBelow(to)) {
                        return false;
                    }
                    List<Node> others = new ArrayList<>(to.children);
                    others.remove(node);
                    return e[6] >= 0 && e[6] <= others.size();
            }
        }

        void perform(int[] e) {
            Node node = get(e[1]);
            switch (e[0]) {
                case 0:
                    node.label = e[3];
                    break;
                case 1:
                    node.parent.children.remove(node);
                    break;
                case 2:
                    Node fresh = new Node(e[1], e[2]);
                    fresh.parent = get(e[3]);
                    fresh.parent.children.add(e[4], fresh);
                    break;
                default:
                    Node to = get(e[5]);
                    node.parent.children.remove(node);
                    node.parent = to;
                    to.children.add(e[6], node);
                    break;
            }
        }
    }

    private static final class Made {
        final List<int[]> edits;
        final List<int[]> conflicts = new ArrayList<>();
        final List<Integer> sorts = new ArrayList<>(List.of(0));
        int stamp;
        int source = -1;

        Made(List<int[]> edits) {
            this.edits = edits;
        }
    }

    private static final class Refusal extends RuntimeException {
        final int number;

        Refusal(int number) {
            super(null, null, false, false);
            this.number = number;
        }
    }

    /** Its public methods bear the names of the document. */
    public static final class Model {
        final Map<String, Integer> seen = new HashMap<>();
        List<Grown> trees = new ArrayList<>();
        List<Made> patches = new ArrayList<>();
        private final Object[] shelves = new Object[8];
        private final int[] sorts = new int[8];
        private final int[] refusals = new int[8];
        private int seed = 1;
        private int made = 0;
        private int fault = -1;
        private List<Grown> imageTrees = null;
        private List<Made> imagePatches;
        private int imageSeed;

        private void see(String what) {
            seen.merge(what, 1, Integer::sum);
        }

        private interface Answer {
            long get();
        }

        private long asked(int less, Answer answer) {
            try {
                return answer.get();
            } catch (Refusal refusal) {
                refusals[-refusal.number]++;
                return refusal.number - less;
            }
        }

        private static void check(boolean good, int number) {
            if (!good) {
                throw new Refusal(number);
            }
        }

        private static void checkShelf(int s) {
            check(s >= 0 && s < 8, -1);
        }

        private long[] rowOf(int s) {
            checkShelf(s);
            check(!(shelves[s] instanceof Integer), -2);
            check(shelves[s] != null, -3);
            return (long[]) shelves[s];
        }

        private Grown treeOf(int t) {
            check(t >= 0 && t < trees.size(), -1);
            return trees.get(t);
        }

        private Made patchOfNumber(int p) {
            check(p >= 0 && p < patches.size(), -1);
            return patches.get(p);
        }

        public long row(int s, int sort, int n) {
            return asked(0, () -> {
                checkShelf(s);
                check(n >= 0, -4);
                check(sort >= 0 && sort <= 3, -6);
                check(n <= 160, -7);
                shelves[s] = new long[n];
                sorts[s] = sort;
                return 1;
            });
        }

        public long set(int s, int i, long v) {
            return asked(0, () -> {
                long[] row = rowOf(s);
                check(i >= 0 && i < row.length, -5);
                int bits = 64 - (8 << sorts[s]);
                row[i] = v << bits >> bits;
                return 1;
            });
        }

        public long copy(int p, int q, int i, int j, int n) {
            return asked(0, () -> {
                checkShelf(p);
                checkShelf(q);
                check(!(shelves[p] instanceof Integer) && !(shelves[q] instanceof Integer), -2);
                check(shelves[p] == null || shelves[q] == null || sorts[p] == sorts[q], -2);
                check(shelves[p] != null && shelves[q] != null, -3);
                check(n >= 0, -4);
                long[] from = ((long[]) shelves[p]).clone();
                long[] to = (long[]) shelves[q];
                check(i >= 0 && j >= 0 && (long) i + n <= from.length && (long) j + n <= to.length, -5);
                for (int k = 0; k < n; k++) {
                    to[j + k] = from[i + k];
                }
                return 1;
            });
        }

        public long element(int s, int i) {
            if (s < 0 || s > 7 || !(shelves[s] instanceof long[])) {
                return 0;
            }
            long[] row = (long[]) shelves[s];
            return i >= 0 && i < row.length ? row[i] : 0;
        }

        public long show(int s, int p) {
            return asked(0, () -> {
                checkShelf(s);
                if (p == -1) {
                    shelves[s] = null;
                    return 0;
                }
                patchOfNumber(p);
                shelves[s] = p;
                return 1;
            });
        }

        public long holds(int s) {
            if (s < 0 || s > 7 || shelves[s] == null) {
                return -1;
            }
            return shelves[s] instanceof Integer ? (Integer) shelves[s] : 100 + sorts[s];
        }

        public long says(int s, int as) {
            return asked(0, () -> {
                checkShelf(s);
                check(as >= 0 && as <= 3, -1);
                check(!(shelves[s] instanceof long[]), -2);
                check(shelves[s] != null, -3);
                Made patch = patches.get((Integer) shelves[s]);
                check(patch.sorts.contains(as), -2);
                return new int[] {patch.edits.size(), patch.edits.size(), patch.source, patch.conflicts.size()}[as];
            });
        }

        public long tree(int s) {
            return asked(0, () -> {
                long[] row = rowOf(s);
                int[] text = new int[row.length];
                for (int i = 0; i < row.length; i++) {
                    text[i] = (int) row[i];
                }
                Grammar grammar = new Grammar(text);
                fault = grammar.fault();
                check(fault == -1, -6);
                check(trees.size() < 16, -7);
                trees.add(new Grown(grammar.root));
                return trees.size() - 1;
            });
        }

        public long fault() {
            return fault;
        }

        public long nodes(int t) {
            return asked(0, () -> treeOf(t).order().size());
        }

        public long node(int t, int i, int what) {
            return asked(0, () -> {
                List<Node> order = treeOf(t).order();
                check(i >= 0 && i < order.size() && what >= 0 && what <= 6, -5);
                Node node = order.get(i);
                List<Node> below = new ArrayList<>();
                node.fill(below);
                return new int[] {node.key, node.label, node.parent == null ? 0 : node.parent.key, node.place(),
                    node.children.size(), node.depth(), below.size()}[what];
            });
        }

        public long find(int t, int key) {
            return asked(10, () -> {
                Grown tree = treeOf(t);
                return tree.order().indexOf(tree.get(key));
            });
        }

        public long child(int t, int key, int place) {
            return asked(0, () -> {
                Node node = treeOf(t).get(key);
                check(node != null && place >= 0 && place < node.children.size(), -5);
                return node.children.get(place).key;
            });
        }

        public long above(int t, int key, int other) {
            return asked(0, () -> {
                Node node = treeOf(t).get(key);
                Node second = treeOf(t).get(other);
                check(node != null && second != null, -5);
                while (!node.isOrHasBelow(second)) {
                    node = node.parent;
                }
                return node.key;
            });
        }

        public long same(int t, int u) {
            return asked(0, () -> {
                List<Node> order = treeOf(t).order();
                List<Node> other = treeOf(u).order();
                for (int i = 0; i < order.size() || i < other.size(); i++) {
                    if (i >= order.size() || i >= other.size() || order.get(i).key != other.get(i).key
                            || order.get(i).label != other.get(i).label
                            || order.get(i).depth() != other.get(i).depth()) {
                        return i + 1;
                    }
                }
                return 0;
            });
        }

        public long drop(int t) {
            return asked(0, () -> {
                treeOf(t);
                check(t == trees.size() - 1, -6);
                trees.remove(t);
                return trees.size();
            });
        }

        private List<int[]> differ(int t, int u) {
            Grown from = treeOf(t);
            Grown to = treeOf(u);
            check(from.root.key == to.root.key, -6);
            Grown w = from.copy();
            List<int[]> edits = new ArrayList<>();
            for (Node node : from.order()) {
                Node there = to.get(node.key);
                if (there != null && there.label != node.label) {
                    step(w, edits, new int[] {0, node.key, node.label, there.label, 0, 0, 0});
                }
            }
            for (Node p : to.order()) {
                List<Integer> staying = staying(w.get(p.key), p);
                for (Node c : p.children) {
                    if (!staying.contains(c.key)) {
                        Node node = w.get(c.key);
                        List<Node> row = new ArrayList<>(w.get(p.key).children);
                        row.remove(node);
                        int at = c.place() == 0 ? 0 : row.indexOf(w.get(p.children.get(c.place() - 1).key)) + 1;
                        step(w, edits, from.get(c.key) != null
                                ? new int[] {3, c.key, 0, node.parent.key, node.place(), p.key, at}
                                : new int[] {2, c.key, c.label, p.key, at, 0, 0});
                    }
                }
            }
            List<Node> backwards = from.order();
            Collections.reverse(backwards);
            for (Node node : backwards) {
                if (to.get(node.key) == null) {
                    Node gone = w.get(node.key);
                    step(w, edits, new int[] {1, gone.key, gone.label, gone.parent.key, gone.place(), 0, 0});
                }
            }
            if (!textOf(w.root).equals(textOf(to.root))) {
                throw new IllegalStateException("the model's DIFFERENCE is wrong");
            }
            return edits;
        }

        private static void step(Grown w, List<int[]> edits, int[] edit) {
            if (!w.fits(edit)) {
                throw new IllegalStateException("the model's EDIT doesn't FIT");
            }
            edits.add(edit);
            w.perform(edit);
        }

        private static List<Integer> staying(Node inW, Node p) {
            List<Integer> inU = new ArrayList<>();
            for (Node c : p.children) {
                inU.add(c.key);
            }
            List<Integer> keys = new ArrayList<>();
            for (Node c : inW.children) {
                if (inU.contains(c.key)) {
                    keys.add(c.key);
                }
            }
            List<List<Integer>> best = new ArrayList<>(Collections.nCopies(keys.size(), List.of()));
            List<Integer> longest = List.of();
            for (int i = keys.size() - 1; i >= 0; i--) {
                List<Integer> tail = List.of();
                for (int j = keys.size() - 1; j > i; j--) {
                    if (inU.indexOf(keys.get(j)) > inU.indexOf(keys.get(i))) {
                        tail = better(best.get(j), tail, keys);
                    }
                }
                List<Integer> row = new ArrayList<>(List.of(keys.get(i)));
                row.addAll(tail);
                best.set(i, row);
                longest = better(row, longest, keys);
            }
            return longest;
        }

        private static List<Integer> better(List<Integer> a, List<Integer> b, List<Integer> keys) {
            if (a.size() != b.size()) {
                return a.size() > b.size() ? a : b;
            }
            for (int i = 0; i < a.size(); i++) {
                if (!a.get(i).equals(b.get(i))) {
                    return keys.indexOf(a.get(i)) < keys.indexOf(b.get(i)) ? a : b;
                }
            }
            return a;
        }

        private int keep(Made patch) {
            if (patch.edits.size() > 120) {
                see("too long");
            }
            check(patches.size() < 16 && patch.edits.size() <= 120, -7);
            made++;
            patch.stamp = made;
            patches.add(patch);
            return patches.size() - 1;
        }

        private static Made of(List<int[]> edits, int source, Integer... sorts) {
            Made patch = new Made(edits);
            patch.source = source;
            patch.sorts.addAll(List.of(sorts));
            return patch;
        }

        public long difference(int t, int u) {
            return asked(0, () -> keep(of(differ(t, u), -1, 1)));
        }

        public long far(int t, int u) {
            return asked(0, () -> differ(t, u).size());
        }

        public long moves(int t, int u) {
            return asked(0, () -> differ(t, u).stream().filter(e -> e[0] == 3).count());
        }

        public long patchOf(int p, int what) {
            return asked(0, () -> {
                check(p >= 0 && p < patches.size() && what >= 0 && what <= 5, -5);
                Made patch = patches.get(p);
                return what == 0 ? patch.edits.size() : what == 1 ? patch.stamp
                        : patch.edits.stream().filter(e -> e[0] == what - 2).count();
            });
        }

        public long edit(int p, int i, int what) {
            return asked(0, () -> {
                Made patch = patchOfNumber(p);
                check(i >= 0 && i < patch.edits.size() && what >= 0 && what <= 6, -5);
                return patch.edits.get(i)[what];
            });
        }

        public long touched(int p, int part) {
            return asked(0, () -> {
                Made patch = patchOfNumber(p);
                check(part == 0 || part == 1, -5);
                long bits = 0;
                for (int[] e : patch.edits) {
                    bits |= e[1] > 30 == (part == 1) ? 1L << (e[1] > 30 ? e[1] - 30 : e[1]) : 0;
                }
                return bits;
            });
        }

        private int misfit(Grown w, Made patch) {
            for (int i = 0; i < patch.edits.size(); i++) {
                if (!w.fits(patch.edits.get(i))) {
                    see("misfit " + patch.edits.get(i)[0]);
                    return i;
                }
                w.perform(patch.edits.get(i));
            }
            see(patch.edits.isEmpty() ? "empty" : "applied");
            return -1;
        }

        public long apply(int p, int t) {
            return asked(0, () -> {
                Made patch = patchOfNumber(p);
                Grown w = treeOf(t).copy();
                check(misfit(w, patch) == -1, -6);
                trees.set(t, w);
                return w.order().size();
            });
        }

        public long sticks(int p, int t) {
            return asked(10, () -> {
                Made patch = patchOfNumber(p);
                return misfit(treeOf(t).copy(), patch);
            });
        }

        private static int[] turn(int[] e) {
            switch (e[0]) {
                case 0: return new int[] {0, e[1], e[3], e[2], 0, 0, 0};
                case 1: return new int[] {2, e[1], e[2], e[3], e[4], 0, 0};
                case 2: return new int[] {1, e[1], e[2], e[3], e[4], 0, 0};
                default: return new int[] {3, e[1], 0, e[5], e[6], e[3], e[4]};
            }
        }

        public long invert(int p) {
            return asked(0, () -> {
                List<int[]> edits = new ArrayList<>();
                for (int[] e : patchOfNumber(p).edits) {
                    edits.add(0, turn(e));
                }
                return keep(of(edits, p, 2));
            });
        }

        public long behind(int p, int q) {
            return asked(0, () -> {
                List<int[]> edits = new ArrayList<>(patchOfNumber(p).edits);
                edits.addAll(patchOfNumber(q).edits);
                return keep(of(edits, -1));
            });
        }

        public long squeeze(int p) {
            return asked(0, () -> {
                List<int[]> edits = new ArrayList<>(patchOfNumber(p).edits);
                while (squeezeOnce(edits)) {
                    see("squeezed");
                }
                return keep(of(edits, p, 2));
            });
        }

        private boolean squeezeOnce(List<int[]> edits) {
            for (int i = 0; i + 1 < edits.size(); i++) {
                int[] e = edits.get(i);
                int[] f = edits.get(i + 1);
                if (Arrays.equals(f, turn(e))) {
                    see("vanished");
                    edits.remove(i);
                    edits.remove(i);
                    return true;
                }
                if (e[0] == 0 && f[0] == 0 && e[1] == f[1]) {
                    see("joined");
                    edits.remove(i);
                    edits.remove(i);
                    if (e[2] != f[3]) {
                        edits.add(i, new int[] {0, e[1], e[2], f[3], 0, 0, 0});
                    }
                    return true;
                }
            }
            return false;
        }

        public long rebase(int q, int t) {
            return asked(0, () -> {
                Made patch = patchOfNumber(q);
                Grown w = treeOf(t).copy();
                Made rebased = of(new ArrayList<>(), q, 2, 3);
                for (int i = 0; i < patch.edits.size(); i++) {
                    int[] e = patch.edits.get(i).clone();
                    int fate = over(w, e);
                    if (fate > 0) {
                        see("conflict " + fate);
                        rebased.conflicts.add(new int[] {i, fate});
                    } else if (fate == 0) {
                        step(w, rebased.edits, e);
                    } else {
                        see("left out " + e[0]);
                    }
                }
                return keep(rebased);
            });
        }

        /** 0: kept, and changed in place; -1: left out; else the CONFLICT. */
        private static int over(Grown w, int[] e) {
            Node node = w.get(e[1]);
            Node parent = w.get(e[3]);
            if (e[0] == 0) {
                return node == null ? 1 : node.label == e[3] ? -1 : node.label != e[2] ? 2 : 0;
            }
            if (e[0] == 1) {
                if (node == null) {
                    return -1;
                }
                if (!node.children.isEmpty() || node.parent == null) {
                    return 3;
                }
                e[3] = node.parent.key;
                e[4] = node.place();
                return node.label != e[2] ? 2 : 0;
            }
            if (e[0] == 2) {
                if (node != null) {
                    return node.label == e[2] && node.parent != null && node.parent == parent ? -1 : 4;
                }
                if (parent == null) {
                    return 1;
                }
                e[4] = Math.min(e[4], parent.children.size());
                return w.order().size() >= 80 ? 7 : 0;
            }
            Node to = w.get(e[5]);
            if (node == null || to == null) {
                return 1;
            }
            if (node.isOrHasBelow(to) || node.parent == null) {
                return 5;
            }
            if (node.parent != parent) {
                return node.parent == to ? -1 : 6;
            }
            e[4] = node.place();
            e[6] = Math.min(e[6], to.children.size() - (to.children.contains(node) ? 1 : 0));
            return 0;
        }

        public long conflict(int p, int i, int what) {
            return asked(0, () -> {
                Made patch = patchOfNumber(p);
                check(i >= 0 && i < patch.conflicts.size() && what >= 0 && what <= 1, -5);
                return patch.conflicts.get(i)[what];
            });
        }

        public long hand(int key, int label, int t) {
            return asked(0, () -> {
                Node node = treeOf(t).get(key);
                check(node != null, -5);
                check(label >= 97 && label <= 122, -6);
                return keep(of(List.of(new int[] {0, key, node.label, label, 0, 0, 0}), -1));
            });
        }

        public long put(int t, int key, int to, int at) {
            return asked(0, () -> {
                Grown tree = treeOf(t);
                Node node = tree.get(key);
                check(node != null && tree.get(to) != null, -5);
                int parent = node.parent == null ? 0 : node.parent.key;
                int[] edit = {3, key, 0, parent, node.place(), to, at};
                check(tree.fits(edit), -6);
                return keep(of(List.of(edit), -1));
            });
        }

        public long forget() {
            return asked(0, () -> {
                check(!patches.isEmpty(), -6);
                patches.remove(patches.size() - 1);
                emptyShelves();
                return patches.size();
            });
        }

        private void emptyShelves() {
            for (int s = 0; s < 8; s++) {
                if (shelves[s] instanceof Integer && (Integer) shelves[s] >= patches.size()) {
                    shelves[s] = null;
                }
            }
        }

        public long judge(int s, int t, int n) {
            return asked(10, () -> {
                checkShelf(s);
                List<Node> order = treeOf(t).order();
                long[] told = rowOf(s);
                check(n >= 0, -4);
                check(n <= told.length, -5);
                check(n <= 60, -6);
                for (int i = 0; i < n; i++) {
                    if (i >= order.size() || order.get(i).key != (int) told[i]) {
                        return i;
                    }
                }
                return order.size() > n ? n : -1;
            });
        }

        private int draw(int n) {
            seed = seed * 1103515245 + 12345;
            return (seed >> 16 & 0xffff) % n;
        }

        public long days(int t, int n) {
            return asked(0, () -> {
                Grown tree = treeOf(t);
                check(n >= 1 && n <= 60, -6);
                Grown w = tree.copy();
                for (int day = 0; day < n; day++) {
                    int key = draw(60) + 1;
                    Node node = w.get(key);
                    List<Node> order = w.order();
                    if (node == null && order.size() < 40) {
                        int label = 'a' + draw(26);
                        w.perform(new int[] {2, key, label, order.get(draw(order.size())).key, 0, 0, 0});
                    } else if (node != null) {
                        boolean leaf = node.children.isEmpty() && node.parent != null;
                        if (leaf) {
                            see("draw of 2");
                        }
                        if (leaf && draw(2) == 0) {
                            node.parent.children.remove(node);
                        } else {
                            node.label = 'a' + draw(26);
                        }
                    }
                }
                trees.set(t, w);
                return w.order().size();
            });
        }

        public long seed(int v) {
            int was = seed;
            seed = v;
            return was;
        }

        public long image() {
            imageTrees = copies(trees);
            imagePatches = new ArrayList<>(patches);
            imageSeed = seed;
            return trees.size();
        }

        private static List<Grown> copies(List<Grown> trees) {
            List<Grown> copies = new ArrayList<>();
            for (Grown tree : trees) {
                copies.add(tree.copy());
            }
            return copies;
        }

        public long restore() {
            return asked(0, () -> {
                check(imageTrees != null, -6);
                trees = copies(imageTrees);
                patches = new ArrayList<>(imagePatches);
                seed = imageSeed;
                emptyShelves();
                return trees.size();
            });
        }

        public long status(int what) {
            switch (what) {
                case 0: return trees.size();
                case 1: return patches.size();
                case 2: return trees.stream().mapToInt(tree -> tree.order().size()).sum();
                case 3: return patches.stream().mapToInt(patch -> patch.edits.size()).sum();
                case 4: return made;
                case 5: return seed;
                case 6: return Arrays.stream(shelves).filter(held -> held != null).count();
                default: return what >= 11 && what <= 17 ? refusals[what - 10] : -1;
            }
        }
    }

    /** The grammar as it is written, by recursion; a FAULT ends it by a throw. */
    private static final class Grammar {
        private final int[] text;
        private final List<Integer> keys = new ArrayList<>();
        private int at = 0;
        Node root;

        Grammar(int[] text) {
            this.text = text;
        }

        int fault() {
            try {
                root = node(null);
                return at == text.length ? -1 : at;
            } catch (Refusal refusal) {
                return refusal.number;
            }
        }

        private boolean stands(int from, int to) {
            return at < text.length && text[at] >= from && text[at] <= to;
        }

        private void must(boolean good) {
            if (!good) {
                throw new Refusal(at);
            }
        }

        private Node node(Node parent) {
            must(stands('a', 'z') && keys.size() < 40);
            int label = text[at++];
            must(stands('0', '9'));
            int first = at;
            StringBuilder digits = new StringBuilder();
            while (digits.length() < 2 && stands('0', '9')) {
                digits.append((char) text[at++]);
            }
            int key = Integer.parseInt(digits.toString());
            if (key < 1 || key > 60 || keys.contains(key)) {
                throw new Refusal(first);
            }
            keys.add(key);
            Node node = new Node(key, label);
            node.parent = parent;
            if (stands('(', '(')) {
                do {
                    at++;
                    node.children.add(node(node));
                } while (stands(',', ','));
                must(stands(')', ')'));
                at++;
            }
            return node;
        }
    }
}
