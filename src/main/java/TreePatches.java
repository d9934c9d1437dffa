/**
 * Differences and patches of trees of keyed nodes, as ../shared/DOC.md promises them.
 *
 * A TREE or a PATCH is never changed once it stands in the state: a call that changes a
 * TREE works on a copy and puts that in its place. So APPLIED is all or nothing by itself,
 * and THE IMAGE can hold the very same TREES and PATCHES.
 */
public final class TreePatches {
    public static final int NONE = -1;

    private static final int NOBODY = -1;
    private static final int OTHER = -2;
    private static final int NOTHING = -3;
    private static final int BELOW = -4;
    private static final int BEYOND = -5;
    private static final int WRONG = -6;
    private static final int ROOM = -7;
    /** What find(), sticks() and judge() answer is this much lower, for NONE has the -1. */
    private static final int LOWER = 10;

    private static final int SHELVES = 8;
    private static final int MAX_ELEMENTS = 160;
    private static final int MAX_TREES = 16;
    private static final int MAX_PATCHES = 16;
    private static final int MAX_EDITS = 120;
    private static final int MAX_NODES = 80;
    private static final int MAX_READ = 40;
    private static final int MAX_GROWN = 40;
    private static final int MAX_KEY = 60;
    private static final int HALF_KEYS = 30;
    private static final int MAX_TOLD = 60;
    private static final int MAX_DAYS = 60;
    private static final int LABELS = 26;

    private static final int BYTES = 0;
    private static final int SHORTS = 1;
    private static final int INTS = 2;
    private static final int LONGS = 3;
    private static final int ROW_HELD = 100;

    private static final int NAME = 0;
    private static final int TAKE = 1;
    private static final int GIVE = 2;
    private static final int MOVE = 3;

    private static final int ANY = 0;
    private static final int DIFFERENCE = 1;
    private static final int OF_ANOTHER = 2;
    private static final int REBASED = 3;

    private final Row[] rows = new Row[SHELVES];
    private final int[] shown = new int[SHELVES];
    private final int[] refusals = new int[1 - ROOM];
    private final Draft draft = new Draft();
    private State now = new State();
    private State image = null;
    private int fault = NONE;
    private int everMade = 0;

    public TreePatches() {
        for (int s = 0; s < SHELVES; s++) {
            shown[s] = NONE;
        }
    }

    // ---- SHELVES and ROWS

    public int row(int s, int sort, int n) {
        if (!isShelf(s)) {
            return refuse(NOBODY);
        }
        if (n < 0) {
            return refuse(BELOW);
        }
        if (sort < BYTES || sort > LONGS) {
            return refuse(WRONG);
        }
        if (n > MAX_ELEMENTS) {
            return refuse(ROOM);
        }
        rows[s] = new Row(sort, n);
        shown[s] = NONE;
        return 1;
    }

    public int set(int s, int i, long v) {
        Row row = rowAt(s);
        if (row == null) {
            return refuse(whyNoRow(s));
        }
        if (!row.has(i)) {
            return refuse(BEYOND);
        }
        row.keep(i, v);
        return 1;
    }

    public int copy(int p, int q, int i, int j, int n) {
        if (!isShelf(p) || !isShelf(q)) {
            return refuse(NOBODY);
        }
        Row from = rowAt(p);
        Row to = rowAt(q);
        if (shown[p] != NONE || shown[q] != NONE) {
            return refuse(OTHER);
        }
        if (from != null && to != null && from.sort != to.sort) {
            return refuse(OTHER);
        }
        if (from == null || to == null) {
            return refuse(NOTHING);
        }
        if (n < 0) {
            return refuse(BELOW);
        }
        if (!from.hasRun(i, n) || !to.hasRun(j, n)) {
            return refuse(BEYOND);
        }
        System.arraycopy(from.elements, i, to.elements, j, n);
        return 1;
    }

    public long element(int s, int i) {
        Row row = rowAt(s);
        return row == null ? 0 : row.longAt(i);
    }

    public int show(int s, int p) {
        if (!isShelf(s)) {
            return refuse(NOBODY);
        }
        if (p != NONE && patchAt(p) == null) {
            return refuse(NOBODY);
        }
        rows[s] = null;
        shown[s] = p;
        return p == NONE ? 0 : 1;
    }

    public int holds(int s) {
        Row row = rowAt(s);
        if (row != null) {
            return ROW_HELD + row.sort;
        }
        return isShelf(s) ? shown[s] : NONE;
    }

    public int says(int s, int as) {
        if (!isShelf(s) || as < ANY || as > REBASED) {
            return refuse(NOBODY);
        }
        if (rowAt(s) != null) {
            return refuse(OTHER);
        }
        Patch patch = patchAt(shown[s]);
        if (patch == null) {
            return refuse(NOTHING);
        }
        if (!patch.isOf(as)) {
            return refuse(OTHER);
        }
        return patch.saysAs(as);
    }

    // ---- TREES

    public int tree(int s) {
        Row text = rowAt(s);
        if (text == null) {
            return refuse(whyNoRow(s));
        }
        Reader reader = new Reader(text);
        fault = reader.read();
        if (fault != NONE) {
            return refuse(WRONG);
        }
        int number = now.addTree(reader.tree);
        return number == NONE ? refuse(ROOM) : number;
    }

    public int fault() {
        return fault;
    }

    public int nodes(int t) {
        Tree tree = treeAt(t);
        return tree == null ? refuse(NOBODY) : tree.size;
    }

    public int node(int t, int i, int what) {
        Tree tree = treeAt(t);
        if (tree == null) {
            return refuse(NOBODY);
        }
        if (!tree.has(i)) {
            return refuse(BEYOND);
        }
        switch (what) {
            case 0: return tree.keyAt(i);
            case 1: return tree.labelAt(i);
            case 2: return tree.parentKeyAt(i);
            case 3: return tree.placeAt(i);
            case 4: return tree.childCount(i);
            case 5: return tree.depthAt(i);
            case 6: return tree.endOf(i) - i;
            default: return refuse(BEYOND);
        }
    }

    public int find(int t, int key) {
        Tree tree = treeAt(t);
        return tree == null ? refuseLower(NOBODY) : tree.whereOf(key);
    }

    public int child(int t, int key, int place) {
        Tree tree = treeAt(t);
        if (tree == null) {
            return refuse(NOBODY);
        }
        int parent = tree.whereOf(key);
        if (parent == NONE || place < 0 || place >= tree.childCount(parent)) {
            return refuse(BEYOND);
        }
        return tree.keyAt(tree.spot(parent, place, NONE));
    }

    public int above(int t, int key, int other) {
        Tree tree = treeAt(t);
        if (tree == null) {
            return refuse(NOBODY);
        }
        int i = tree.whereOf(key);
        int j = tree.whereOf(other);
        if (i == NONE || j == NONE) {
            return refuse(BEYOND);
        }
        return tree.keyAt(tree.lowestOver(i, j));
    }

    public int same(int t, int u) {
        Tree tree = treeAt(t);
        Tree other = treeAt(u);
        if (tree == null || other == null) {
            return refuse(NOBODY);
        }
        return tree.firstUnlike(other) + 1;
    }

    public int drop(int t) {
        if (treeAt(t) == null) {
            return refuse(NOBODY);
        }
        if (t != now.treeCount - 1) {
            return refuse(WRONG);
        }
        now.dropTree();
        return now.treeCount;
    }

    // ---- DIFFERENCES

    public int difference(int t, int u) {
        int trouble = Differ.draftInto(draft, treeAt(t), treeAt(u));
        return trouble == 0 ? keepDraft(DIFFERENCE, NONE) : refuse(trouble);
    }

    public int far(int t, int u) {
        int trouble = Differ.draftInto(draft, treeAt(t), treeAt(u));
        return trouble == 0 ? draft.size : refuse(trouble);
    }

    public int moves(int t, int u) {
        int trouble = Differ.draftInto(draft, treeAt(t), treeAt(u));
        return trouble == 0 ? draft.countOf(MOVE) : refuse(trouble);
    }

    // ---- what PATCHES are

    public int patchOf(int p, int what) {
        Patch patch = patchAt(p);
        if (patch == null || what < 0 || what > 5) {
            return refuse(BEYOND);
        }
        if (what == 0) {
            return patch.size();
        }
        return what == 1 ? patch.stamp : patch.countOf(what - 2);
    }

    public int edit(int p, int i, int what) {
        Patch patch = patchAt(p);
        if (patch == null) {
            return refuse(NOBODY);
        }
        Edit edit = patch.editAt(i);
        if (edit == null || what < 0 || what > 6) {
            return refuse(BEYOND);
        }
        return edit.told(what);
    }

    public int touched(int p, int part) {
        Patch patch = patchAt(p);
        if (patch == null) {
            return refuse(NOBODY);
        }
        if (part < 0 || part > 1) {
            return refuse(BEYOND);
        }
        return patch.keyBits(part * HALF_KEYS);
    }

    public int apply(int p, int t) {
        Patch patch = patchAt(p);
        Tree tree = treeAt(t);
        if (patch == null || tree == null) {
            return refuse(NOBODY);
        }
        Tree changed = new Tree(tree);
        if (patch.changeUntilMisfit(changed) != NONE) {
            return refuse(WRONG);
        }
        now.replaceTree(t, changed);
        return changed.size;
    }

    public int sticks(int p, int t) {
        Patch patch = patchAt(p);
        Tree tree = treeAt(t);
        if (patch == null || tree == null) {
            return refuseLower(NOBODY);
        }
        return patch.changeUntilMisfit(new Tree(tree));
    }

    public int conflict(int p, int i, int what) {
        Patch patch = patchAt(p);
        if (patch == null) {
            return refuse(NOBODY);
        }
        if (i < 0 || i >= patch.conflictCount() || what < 0 || what > 1) {
            return refuse(BEYOND);
        }
        return patch.conflictAt(i, what);
    }

    // ---- PATCHES made

    public int invert(int p) {
        Patch patch = patchAt(p);
        if (patch == null) {
            return refuse(NOBODY);
        }
        draft.clear();
        for (int i = patch.size() - 1; i >= 0; i--) {
            Edit edit = patch.editAt(i);
            if (edit != null) {
                draft.add(edit.turned());
            }
        }
        return keepDraft(OF_ANOTHER, p);
    }

    public int behind(int p, int q) {
        Patch first = patchAt(p);
        Patch second = patchAt(q);
        if (first == null || second == null) {
            return refuse(NOBODY);
        }
        draft.clear();
        draft.addAll(first);
        draft.addAll(second);
        return keepDraft(ANY, NONE);
    }

    public int squeeze(int p) {
        Patch patch = patchAt(p);
        if (patch == null) {
            return refuse(NOBODY);
        }
        draft.clear();
        for (int i = 0; i < patch.size(); i++) {
            draft.addSqueezed(patch.editAt(i));
        }
        return keepDraft(OF_ANOTHER, p);
    }

    public int rebase(int q, int t) {
        Patch patch = patchAt(q);
        Tree tree = treeAt(t);
        if (patch == null || tree == null) {
            return refuse(NOBODY);
        }
        Tree w = new Tree(tree);
        draft.clear();
        for (int i = 0; i < patch.size(); i++) {
            Edit edit = patch.editAt(i);
            if (edit != null) {
                draft.addRebased(edit, i, w);
            }
        }
        return keepDraft(REBASED, q);
    }

    public int hand(int key, int label, int t) {
        Tree tree = treeAt(t);
        if (tree == null) {
            return refuse(NOBODY);
        }
        int i = tree.whereOf(key);
        if (i == NONE) {
            return refuse(BEYOND);
        }
        if (!isLabel(label)) {
            return refuse(WRONG);
        }
        draft.clear();
        draft.add(Edit.name(key, tree.labelAt(i), label));
        return keepDraft(ANY, NONE);
    }

    public int put(int t, int key, int to, int at) {
        Tree tree = treeAt(t);
        if (tree == null) {
            return refuse(NOBODY);
        }
        int i = tree.whereOf(key);
        if (i == NONE || tree.whereOf(to) == NONE) {
            return refuse(BEYOND);
        }
        Edit edit = Edit.move(key, tree.parentKeyAt(i), tree.placeAt(i), to, at);
        if (!edit.fits(tree)) {
            return refuse(WRONG);
        }
        draft.clear();
        draft.add(edit);
        return keepDraft(ANY, NONE);
    }

    public int forget() {
        if (now.patchCount == 0) {
            return refuse(WRONG);
        }
        now.forgetPatch();
        emptyVainShelves();
        return now.patchCount;
    }

    // ---- told ROWS, DAYS, THE IMAGE, counts

    public int judge(int s, int t, int n) {
        Tree tree = treeAt(t);
        if (!isShelf(s) || tree == null) {
            return refuseLower(NOBODY);
        }
        Row told = rowAt(s);
        if (told == null) {
            return refuseLower(whyNoRow(s));
        }
        if (n < 0) {
            return refuseLower(BELOW);
        }
        if (n > told.length()) {
            return refuseLower(BEYOND);
        }
        if (n > MAX_TOLD) {
            return refuseLower(WRONG);
        }
        return tree.firstWrong(told, n);
    }

    public int days(int t, int n) {
        Tree tree = treeAt(t);
        if (tree == null) {
            return refuse(NOBODY);
        }
        if (n < 1 || n > MAX_DAYS) {
            return refuse(WRONG);
        }
        Tree changed = new Tree(tree);
        for (int day = 0; day < n; day++) {
            passDay(changed);
        }
        now.replaceTree(t, changed);
        return changed.size;
    }

    public int seed(int v) {
        int was = now.seed;
        now.seed = v;
        return was;
    }

    public int image() {
        image = new State(now);
        return now.treeCount;
    }

    public int restore() {
        if (image == null) {
            return refuse(WRONG);
        }
        now = new State(image);
        emptyVainShelves();
        return now.treeCount;
    }

    public int status(int what) {
        if (what > LOWER && what <= LOWER - ROOM) {
            return refusals[what - LOWER];
        }
        switch (what) {
            case 0: return now.treeCount;
            case 1: return now.patchCount;
            case 2: return now.nodeCount();
            case 3: return now.editCount();
            case 4: return everMade;
            case 5: return now.seed;
            case 6: return fullShelves();
            default: return NONE;
        }
    }

    // ---- what the calls share

    private int refuse(int number) {
        if (number >= ROOM && number <= NOBODY) {
            refusals[-number]++;
        }
        return number;
    }

    private int refuseLower(int number) {
        return refuse(number) - LOWER;
    }

    private static boolean isShelf(int s) {
        return s >= 0 && s < SHELVES;
    }

    private static boolean isLabel(int sign) {
        return sign >= 'a' && sign <= 'z';
    }

    private Row rowAt(int s) {
        return isShelf(s) ? rows[s] : null;
    }

    private int whyNoRow(int s) {
        if (!isShelf(s)) {
            return NOBODY;
        }
        return shown[s] == NONE ? NOTHING : OTHER;
    }

    private Tree treeAt(int t) {
        return now.treeAt(t);
    }

    private Patch patchAt(int p) {
        return now.patchAt(p);
    }

    private void emptyVainShelves() {
        for (int s = 0; s < SHELVES; s++) {
            if (shown[s] >= now.patchCount) {
                shown[s] = NONE;
            }
        }
    }

    private int fullShelves() {
        int full = 0;
        for (int s = 0; s < SHELVES; s++) {
            if (rows[s] != null || shown[s] != NONE) {
                full++;
            }
        }
        return full;
    }

    /** ROOM is the last of the refusals, so that it can be looked at here, for all who make a PATCH. */
    private int keepDraft(int sort, int source) {
        if (draft.size > MAX_EDITS || now.patchCount >= MAX_PATCHES) {
            return refuse(ROOM);
        }
        everMade++;
        return now.addPatch(new Patch(draft, sort, source, everMade));
    }

    private void passDay(Tree tree) {
        int key = now.draw(MAX_KEY) + 1;
        int i = tree.whereOf(key);
        if (i == NONE) {
            if (tree.size < MAX_GROWN) {
                int label = 'a' + now.draw(LABELS);
                int parent = now.draw(tree.size);
                tree.insert(parent + 1, key, label, tree.depthAt(parent) + 1);
            }
        } else if (i != 0 && tree.childCount(i) == 0 && now.draw(2) == 0) {
            tree.remove(i);
        } else {
            tree.rename(i, 'a' + now.draw(LABELS));
        }
    }

    /** A ROW on a SHELF. Longs hold the elements of every SORT. */
    private static final class Row {
        final int sort;
        final long[] elements;

        Row(int sort, int n) {
            this.sort = sort;
            this.elements = new long[n < 0 ? 0 : n];
        }

        int length() {
            return elements.length;
        }

        boolean has(int i) {
            return i >= 0 && i < elements.length;
        }

        /** Taken off the length, for i and n together may be more than an int holds. */
        boolean hasRun(int i, int n) {
            return i >= 0 && n >= 0 && i <= elements.length - n;
        }

        long longAt(int i) {
            return has(i) ? elements[i] : 0;
        }

        int intAt(int i) {
            return (int) longAt(i);
        }

        void keep(int i, long v) {
            if (has(i)) {
                elements[i] = cutToSort(v);
            }
        }

        private long cutToSort(long v) {
            switch (sort) {
                case BYTES: return (byte) v;
                case SHORTS: return (short) v;
                case INTS: return (int) v;
                default: return v;
            }
        }
    }

    /** What THE IMAGE is taken of. */
    private static final class State {
        private final Tree[] trees = new Tree[MAX_TREES];
        private final Patch[] patches = new Patch[MAX_PATCHES];
        int treeCount = 0;
        int patchCount = 0;
        int seed = 1;

        State() {
        }

        State(State other) {
            for (int t = 0; t < MAX_TREES; t++) {
                trees[t] = other.trees[t];
            }
            for (int p = 0; p < MAX_PATCHES; p++) {
                patches[p] = other.patches[p];
            }
            treeCount = other.treeCount;
            patchCount = other.patchCount;
            seed = other.seed;
        }

        Tree treeAt(int t) {
            return t >= 0 && t < treeCount && t < MAX_TREES ? trees[t] : null;
        }

        Patch patchAt(int p) {
            return p >= 0 && p < patchCount && p < MAX_PATCHES ? patches[p] : null;
        }

        /** Its number, or NONE if there is no room. */
        int addTree(Tree tree) {
            if (treeCount < 0 || treeCount >= MAX_TREES) {
                return NONE;
            }
            trees[treeCount] = tree;
            treeCount++;
            return treeCount - 1;
        }

        void replaceTree(int t, Tree tree) {
            if (t >= 0 && t < treeCount && t < MAX_TREES) {
                trees[t] = tree;
            }
        }

        void dropTree() {
            if (treeCount > 0 && treeCount <= MAX_TREES) {
                treeCount--;
                trees[treeCount] = null;
            }
        }

        /** Its number, or NONE if there is no room. */
        int addPatch(Patch patch) {
            if (patchCount < 0 || patchCount >= MAX_PATCHES) {
                return NONE;
            }
            patches[patchCount] = patch;
            patchCount++;
            return patchCount - 1;
        }

        void forgetPatch() {
            if (patchCount > 0 && patchCount <= MAX_PATCHES) {
                patchCount--;
                patches[patchCount] = null;
            }
        }

        int nodeCount() {
            int count = 0;
            for (int t = 0; t < treeCount; t++) {
                Tree tree = treeAt(t);
                count += tree == null ? 0 : tree.size;
            }
            return count;
        }

        int editCount() {
            int count = 0;
            for (int p = 0; p < patchCount; p++) {
                Patch patch = patchAt(p);
                count += patch == null ? 0 : patch.size();
            }
            return count;
        }

        int draw(int below) {
            seed = seed * 1103515245 + 12345;
            return below > 0 ? (seed >>> 16) % below : 0;
        }
    }

    /**
     * A TREE as rows in its ORDER: how deep each NODE is tells the rest, for all below a
     * NODE stands right behind it, and deeper. There are 60 KEYS, so that the rows, long
     * enough for 80 NODES, never run full.
     */
    private static final class Tree {
        private final int[] keys = new int[MAX_NODES];
        private final int[] labels = new int[MAX_NODES];
        private final int[] depths = new int[MAX_NODES];
        int size = 0;

        Tree() {
        }

        Tree(Tree other) {
            System.arraycopy(other.keys, 0, keys, 0, MAX_NODES);
            System.arraycopy(other.labels, 0, labels, 0, MAX_NODES);
            System.arraycopy(other.depths, 0, depths, 0, MAX_NODES);
            size = other.size;
        }

        boolean has(int i) {
            return i >= 0 && i < size;
        }

        int keyAt(int i) {
            return has(i) ? keys[i] : 0;
        }

        int labelAt(int i) {
            return has(i) ? labels[i] : 0;
        }

        int depthAt(int i) {
            return has(i) ? depths[i] : 0;
        }

        int whereOf(int key) {
            for (int i = 0; i < size; i++) {
                if (keys[i] == key) {
                    return i;
                }
            }
            return NONE;
        }

        /** NONE: the ROOT has none. */
        int parentAt(int i) {
            if (has(i)) {
                for (int j = i - 1; j >= 0; j--) {
                    if (depths[j] < depths[i]) {
                        return j;
                    }
                }
            }
            return NONE;
        }

        int parentKeyAt(int i) {
            return keyAt(parentAt(i));
        }

        int placeAt(int i) {
            int place = 0;
            if (has(i)) {
                for (int j = i - 1; j >= 0 && depths[j] >= depths[i]; j--) {
                    if (depths[j] == depths[i]) {
                        place++;
                    }
                }
            }
            return place;
        }

        /** Where all below a NODE ends. */
        int endOf(int i) {
            int end = i + 1;
            if (has(i)) {
                while (end < size && depths[end] > depths[i]) {
                    end++;
                }
            }
            return end;
        }

        int childCount(int i) {
            int count = 0;
            if (has(i)) {
                for (int j = i + 1; j < size && depths[j] > depths[i]; j++) {
                    if (depths[j] == depths[i] + 1) {
                        count++;
                    }
                }
            }
            return count;
        }

        /** Where the CHILD at a PLACE stands, or would: the NODE that is to be taken out doesn't count. */
        int spot(int parent, int place, int without) {
            int end = endOf(parent);
            int ahead = 0;
            for (int i = parent + 1; i < end; i++) {
                if (depthAt(i) == depthAt(parent) + 1 && i != without) {
                    if (ahead == place) {
                        return i;
                    }
                    ahead++;
                }
            }
            return end;
        }

        boolean isWithin(int i, int top) {
            return i >= top && i < endOf(top);
        }

        /** Of the NODES that have i within, those that stand later in ORDER are the lower ones. */
        int lowestOver(int i, int j) {
            for (int top = i; top > 0; top--) {
                if (isWithin(i, top) && isWithin(j, top)) {
                    return top;
                }
            }
            return 0;
        }

        /** The first place in ORDER at which the two aren't alike; NONE. */
        int firstUnlike(Tree other) {
            int longer = Math.max(size, other.size);
            for (int i = 0; i < longer; i++) {
                if (!has(i) || !other.has(i) || keys[i] != other.keys[i]
                        || labels[i] != other.labels[i] || depths[i] != other.depths[i]) {
                    return i;
                }
            }
            return NONE;
        }

        /** WRONG of the first n told KEYS. */
        int firstWrong(Row told, int n) {
            for (int i = 0; i < n; i++) {
                if (!has(i) || told.intAt(i) != keys[i]) {
                    return i;
                }
            }
            return size > n ? n : NONE;
        }

        void rename(int i, int label) {
            if (has(i)) {
                labels[i] = label;
            }
        }

        void insert(int i, int key, int label, int depth) {
            if (i < 0 || i > size || size >= MAX_NODES) {
                return;
            }
            int count = size - i;
            System.arraycopy(keys, i, keys, i + 1, count);
            System.arraycopy(labels, i, labels, i + 1, count);
            System.arraycopy(depths, i, depths, i + 1, count);
            keys[i] = key;
            labels[i] = label;
            depths[i] = depth;
            size++;
        }

        /** Only for a NODE without CHILDREN. */
        void remove(int i) {
            if (!has(i)) {
                return;
            }
            int count = size - i - 1;
            System.arraycopy(keys, i + 1, keys, i, count);
            System.arraycopy(labels, i + 1, labels, i, count);
            System.arraycopy(depths, i + 1, depths, i, count);
            size--;
        }

        /**
         * Carries a NODE with all below it to where spot stands now. Two neighbouring runs
         * change places if each is turned round, and then both together: that needs no rows
         * beside these.
         */
        void carry(int i, int spot, int depth) {
            if (!has(i) || spot < 0 || spot > size) {
                return;
            }
            int end = endOf(i);
            int deeper = depth - depths[i];
            for (int j = i; j < end; j++) {
                depths[j] += deeper;
            }
            if (spot < i) {
                turnRound(spot, i);
                turnRound(i, end);
                turnRound(spot, end);
            } else if (spot > end) {
                turnRound(i, end);
                turnRound(end, spot);
                turnRound(i, spot);
            }
        }

        private void turnRound(int from, int end) {
            if (from < 0 || end > size) {
                return;
            }
            for (int i = from, j = end - 1; i < j; i++, j--) {
                int key = keys[i];
                keys[i] = keys[j];
                keys[j] = key;
                int label = labels[i];
                labels[i] = labels[j];
                labels[j] = label;
                int depth = depths[i];
                depths[i] = depths[j];
                depths[j] = depth;
            }
        }
    }

    /** Reads a TREE from a ROW of letters. */
    private static final class Reader {
        private static final int NODE_DUE = 0;
        private static final int NODE_READ = 1;
        private static final int CHILDREN_READ = 2;

        final Tree tree = new Tree();
        private final Row text;
        private int at = 0;
        private int depth = 0;

        Reader(Row text) {
            this.text = text;
        }

        /** The FAULT, or NONE. Each turn of the loop reads an element at least. */
        int read() {
            int length = text.length();
            int stand = NODE_DUE;
            for (int turn = 0; turn < length && at < length; turn++) {
                if (stand == NODE_DUE) {
                    int fault = readNode();
                    if (fault != NONE) {
                        return fault;
                    }
                    stand = NODE_READ;
                } else {
                    stand = readSign(stand);
                    if (stand == NONE) {
                        return at;
                    }
                }
            }
            return stand != NODE_DUE && depth == 0 ? NONE : length;
        }

        /** Reads what stands behind a NODE: how things stand then, or NONE if it can't stand there. */
        private int readSign(int stand) {
            int sign = text.intAt(at);
            if (sign == '(' && stand == NODE_READ) {
                depth++;
                at++;
                return NODE_DUE;
            }
            if (sign == ',' && depth > 0) {
                at++;
                return NODE_DUE;
            }
            if (sign == ')' && depth > 0) {
                depth--;
                at++;
                return CHILDREN_READ;
            }
            return NONE;
        }

        /** The FAULT, or NONE. */
        private int readNode() {
            int label = text.intAt(at);
            if (!isLabel(label) || tree.size >= MAX_READ) {
                return at;
            }
            int first = at + 1;
            if (!isDigit(first)) {
                return first;
            }
            int key = text.intAt(first) - '0';
            at = first + 1;
            if (isDigit(at)) {
                key = 10 * key + text.intAt(at) - '0';
                at++;
            }
            if (key < 1 || key > MAX_KEY || tree.whereOf(key) != NONE) {
                return first;
            }
            tree.insert(tree.size, key, label, depth);
            return NONE;
        }

        private boolean isDigit(int i) {
            int sign = text.intAt(i);
            return sign >= '0' && sign <= '9';
        }
    }

    /** An EDIT. */
    private static final class Edit {
        /** What comes of an EDIT over a TREE, if it is no CONFLICT. */
        static final int KEPT = 0;
        static final int LEFT_OUT = -1;

        final int which;
        private final int key;
        /** NAME: the old one. */
        private final int label;
        /** NAME: the new LABEL; of the others: the KEY of the PARENT. */
        private final int other;
        private final int place;
        private final int to;
        private final int at;

        private Edit(int which, int key, int label, int other, int place, int to, int at) {
            this.which = which;
            this.key = key;
            this.label = label;
            this.other = other;
            this.place = place;
            this.to = to;
            this.at = at;
        }

        static Edit name(int key, int old, int fresh) {
            return new Edit(NAME, key, old, fresh, 0, 0, 0);
        }

        static Edit take(int key, int label, int parent, int place) {
            return new Edit(TAKE, key, label, parent, place, 0, 0);
        }

        static Edit give(int key, int label, int parent, int place) {
            return new Edit(GIVE, key, label, parent, place, 0, 0);
        }

        static Edit move(int key, int parent, int place, int to, int at) {
            return new Edit(MOVE, key, 0, parent, place, to, at);
        }

        int told(int what) {
            switch (what) {
                case 0: return which;
                case 1: return key;
                case 2: return label;
                case 3: return other;
                case 4: return place;
                case 5: return to;
                default: return at;
            }
        }

        Edit turned() {
            switch (which) {
                case NAME: return name(key, other, label);
                case TAKE: return give(key, label, other, place);
                case GIVE: return take(key, label, other, place);
                default: return move(key, to, at, other, place);
            }
        }

        boolean isLike(Edit edit) {
            return which == edit.which && key == edit.key && label == edit.label
                    && other == edit.other && place == edit.place && to == edit.to && at == edit.at;
        }

        boolean namesAsWell(Edit edit) {
            return which == NAME && edit.which == NAME && key == edit.key;
        }

        /** One NAME for this and the next; null if it would name nothing anew. */
        Edit joinedWith(Edit next) {
            return label == next.other ? null : name(key, label, next.other);
        }

        boolean fits(Tree w) {
            int i = w.whereOf(key);
            switch (which) {
                case NAME: return i != NONE && w.labelAt(i) == label;
                case TAKE: return fitsAsTake(w, i);
                case GIVE: return fitsAsGive(w, i);
                default: return fitsAsMove(w, i);
            }
        }

        private boolean fitsAsTake(Tree w, int i) {
            return i != NONE && w.childCount(i) == 0 && w.labelAt(i) == label
                    && w.parentKeyAt(i) == other && w.placeAt(i) == place;
        }

        private boolean fitsAsGive(Tree w, int i) {
            int parent = w.whereOf(other);
            return i == NONE && parent != NONE && place >= 0 && place <= w.childCount(parent)
                    && w.size < MAX_NODES;
        }

        private boolean fitsAsMove(Tree w, int i) {
            int target = w.whereOf(to);
            return i != NONE && w.parentKeyAt(i) == other && w.placeAt(i) == place
                    && target != NONE && !w.isWithin(target, i)
                    && at >= 0 && at <= lastPlaceOfMove(w, i, target);
        }

        /** Behind the last CHILD of where it goes, counted without it. */
        private int lastPlaceOfMove(Tree w, int i, int target) {
            int count = w.childCount(target);
            return w.parentAt(i) == target ? count - 1 : count;
        }

        /** Only for a TREE that it FITS. */
        void perform(Tree w) {
            int i = w.whereOf(key);
            switch (which) {
                case NAME:
                    w.rename(i, other);
                    break;
                case TAKE:
                    w.remove(i);
                    break;
                case GIVE:
                    int parent = w.whereOf(other);
                    w.insert(w.spot(parent, place, NONE), key, label, w.depthAt(parent) + 1);
                    break;
                default:
                    int target = w.whereOf(to);
                    w.carry(i, w.spot(target, at, i), w.depthAt(target) + 1);
                    break;
            }
        }

        /** REBASED over a TREE: KEPT (as fitted() has it), LEFT_OUT, or the number of the CONFLICT. */
        int over(Tree w) {
            int i = w.whereOf(key);
            switch (which) {
                case NAME: return nameOver(w, i);
                case TAKE: return takeOver(w, i);
                case GIVE: return giveOver(w, i);
                default: return moveOver(w, i);
            }
        }

        private int nameOver(Tree w, int i) {
            if (i == NONE) {
                return 1;
            }
            if (w.labelAt(i) == other) {
                return LEFT_OUT;
            }
            return w.labelAt(i) == label ? KEPT : 2;
        }

        private int takeOver(Tree w, int i) {
            if (i == NONE) {
                return LEFT_OUT;
            }
            if (i == 0 || w.childCount(i) > 0) {
                return 3;
            }
            return w.labelAt(i) == label ? KEPT : 2;
        }

        private int giveOver(Tree w, int i) {
            if (i != NONE) {
                return w.labelAt(i) == label && w.parentKeyAt(i) == other ? LEFT_OUT : 4;
            }
            if (w.whereOf(other) == NONE) {
                return 1;
            }
            return w.size < MAX_NODES ? KEPT : 7;
        }

        private int moveOver(Tree w, int i) {
            int target = w.whereOf(to);
            if (i == NONE || target == NONE) {
                return 1;
            }
            if (i == 0 || w.isWithin(target, i)) {
                return 5;
            }
            int parent = w.parentKeyAt(i);
            if (parent == other) {
                return KEPT;
            }
            return parent == to ? LEFT_OUT : 6;
        }

        /** As it is KEPT over a TREE. */
        Edit fitted(Tree w) {
            int i = w.whereOf(key);
            switch (which) {
                case NAME:
                    return this;
                case TAKE:
                    return take(key, label, w.parentKeyAt(i), w.placeAt(i));
                case GIVE:
                    return give(key, label, other, Math.min(place, w.childCount(w.whereOf(other))));
                default:
                    int last = lastPlaceOfMove(w, i, w.whereOf(to));
                    return move(key, other, w.placeAt(i), to, Math.min(at, last));
            }
        }
    }

    /** EDITS and CONFLICTS as they come, until they become a PATCH. */
    private static final class Draft {
        private final Edit[] edits = new Edit[MAX_EDITS];
        private final int[] conflicts = new int[2 * MAX_EDITS];
        /** May be above MAX_EDITS: what is beyond is only counted. */
        int size = 0;
        private int conflictCount = 0;

        void clear() {
            size = 0;
            conflictCount = 0;
        }

        void add(Edit edit) {
            if (size >= 0 && size < MAX_EDITS) {
                edits[size] = edit;
            }
            size++;
        }

        void addAll(Patch patch) {
            for (int i = 0; i < patch.size(); i++) {
                add(patch.editAt(i));
            }
        }

        /**
         * What stands here has no two to squeeze, so the first such two are the last here and
         * the new one. Nor has one NAME that comes of two: what stands ahead of it is no NAME
         * of that KEY, or it would have been squeezed with the first of the two.
         */
        void addSqueezed(Edit edit) {
            Edit last = editAt(size - 1);
            if (edit == null) {
                return;
            }
            if (last != null && last.namesAsWell(edit)) {
                size--;
                Edit joined = last.joinedWith(edit);
                if (joined != null) {
                    add(joined);
                }
            } else if (last != null && edit.isLike(last.turned())) {
                size--;
            } else {
                add(edit);
            }
        }

        void addRebased(Edit edit, int place, Tree w) {
            int fate = edit.over(w);
            if (fate == Edit.KEPT) {
                Edit fitted = edit.fitted(w);
                fitted.perform(w);
                add(fitted);
            } else if (fate != Edit.LEFT_OUT && conflictCount < MAX_EDITS) {
                conflicts[2 * conflictCount] = place;
                conflicts[2 * conflictCount + 1] = fate;
                conflictCount++;
            }
        }

        Edit editAt(int i) {
            return i >= 0 && i < size && i < MAX_EDITS ? edits[i] : null;
        }

        int countOf(int which) {
            int count = 0;
            for (int i = 0; i < size; i++) {
                Edit edit = editAt(i);
                if (edit != null && edit.which == which) {
                    count++;
                }
            }
            return count;
        }

        Edit[] takeEdits() {
            int count = Math.max(0, Math.min(size, MAX_EDITS));
            Edit[] taken = new Edit[count];
            for (int i = 0; i < count; i++) {
                taken[i] = edits[i];
            }
            return taken;
        }

        int[] takeConflicts() {
            int count = 2 * Math.max(0, Math.min(conflictCount, MAX_EDITS));
            int[] taken = new int[count];
            System.arraycopy(conflicts, 0, taken, 0, count);
            return taken;
        }
    }

    /** A PATCH: never changed. */
    private static final class Patch {
        final int stamp;
        private final Edit[] edits;
        private final int[] conflicts;
        private final int sort;
        private final int source;

        Patch(Draft draft, int sort, int source, int stamp) {
            this.edits = draft.takeEdits();
            this.conflicts = draft.takeConflicts();
            this.sort = sort;
            this.source = source;
            this.stamp = stamp;
        }

        int size() {
            return edits.length;
        }

        Edit editAt(int i) {
            return i >= 0 && i < edits.length ? edits[i] : null;
        }

        boolean isOf(int as) {
            return as == ANY || as == sort || as == OF_ANOTHER && sort == REBASED;
        }

        int saysAs(int as) {
            switch (as) {
                case OF_ANOTHER: return source;
                case REBASED: return conflictCount();
                default: return edits.length;
            }
        }

        int countOf(int which) {
            int count = 0;
            for (int i = 0; i < edits.length; i++) {
                Edit edit = edits[i];
                if (edit != null && edit.which == which) {
                    count++;
                }
            }
            return count;
        }

        /** Bits of the KEYS from less + 1 on, 30 of them. */
        int keyBits(int less) {
            int bits = 0;
            for (int i = 0; i < edits.length; i++) {
                Edit edit = edits[i];
                int bit = edit == null ? 0 : edit.key - less;
                if (bit >= 1 && bit <= HALF_KEYS) {
                    bits |= 1 << bit;
                }
            }
            return bits;
        }

        int conflictCount() {
            return conflicts.length / 2;
        }

        int conflictAt(int i, int what) {
            int at = 2 * i + what;
            return at >= 0 && at < conflicts.length ? conflicts[at] : 0;
        }

        /** Changes a TREE up to the first EDIT that doesn't FIT: which one it is; NONE. */
        int changeUntilMisfit(Tree w) {
            for (int i = 0; i < edits.length; i++) {
                Edit edit = edits[i];
                if (edit == null || !edit.fits(w)) {
                    return i;
                }
                edit.perform(w);
            }
            return NONE;
        }
    }

    /**
     * Drafts the DIFFERENCE from one TREE to another. A KEY of both has at most a NAME and a
     * MOVE, any other one EDIT, and the ROOT no MOVE: 119 EDITS at most of 60 KEYS, and W
     * never has above 60 NODES. So what is told of above 120 or 80 can't come.
     */
    private static final class Differ {
        private final Tree from;
        private final Tree to;
        private final Tree w;
        private final Draft draft;
        /** Of the CHILDREN in W that may stay: where each stands in ORDER of to. */
        private final int[] ranks = new int[MAX_NODES];
        /** How long the longest rising row of ranks is that begins with each. */
        private final int[] lengths = new int[MAX_NODES];
        private final boolean[] staying = new boolean[MAX_NODES];

        private Differ(Draft draft, Tree from, Tree to) {
            this.draft = draft;
            this.from = from;
            this.to = to;
            this.w = new Tree(from);
        }

        /** 0, or why there is no DIFFERENCE. */
        static int draftInto(Draft draft, Tree from, Tree to) {
            if (from == null || to == null) {
                return NOBODY;
            }
            if (from.keyAt(0) != to.keyAt(0)) {
                return WRONG;
            }
            draft.clear();
            Differ differ = new Differ(draft, from, to);
            differ.nameOthers();
            for (int p = 0; p < to.size; p++) {
                differ.markStaying(p);
                differ.bringOthers(p);
            }
            differ.takeOthers();
            return 0;
        }

        private void nameOthers() {
            for (int i = 0; i < from.size; i++) {
                int key = from.keyAt(i);
                int there = to.whereOf(key);
                if (there != NONE && to.labelAt(there) != from.labelAt(i)) {
                    change(Edit.name(key, from.labelAt(i), to.labelAt(there)));
                }
            }
        }

        private void takeOthers() {
            for (int there = from.size - 1; there >= 0; there--) {
                int key = from.keyAt(there);
                if (to.whereOf(key) == NONE) {
                    int i = w.whereOf(key);
                    change(Edit.take(key, w.labelAt(i), w.parentKeyAt(i), w.placeAt(i)));
                }
            }
        }

        private void change(Edit edit) {
            draft.add(edit);
            edit.perform(w);
        }

        /** Marks, by ORDER of to, the CHILDREN of its p-th NODE that are STAYING. */
        private void markStaying(int p) {
            int count = rankChildren(p);
            int due = measureRisingRows(count);
            int last = NONE;
            for (int i = 0; i < count; i++) {
                if (lengths[i] == due && ranks[i] > last) {
                    last = ranks[i];
                    staying[last] = true;
                    due--;
                }
            }
        }

        /** The ranks of the CHILDREN that its p-th NODE has in W, too, in the order of W: how many. */
        private int rankChildren(int p) {
            int parent = w.whereOf(to.keyAt(p));
            int end = w.endOf(parent);
            int count = 0;
            for (int i = parent + 1; i < end && count < MAX_NODES; i++) {
                if (w.depthAt(i) == w.depthAt(parent) + 1) {
                    int rank = to.whereOf(w.keyAt(i));
                    if (rank != NONE && to.parentAt(rank) == p) {
                        ranks[count] = rank;
                        count++;
                    }
                }
            }
            return count;
        }

        /** The length of the longest. */
        private int measureRisingRows(int count) {
            int longest = 0;
            for (int i = count - 1; i >= 0; i--) {
                lengths[i] = 1;
                for (int j = i + 1; j < count; j++) {
                    if (ranks[j] > ranks[i] && lengths[j] >= lengths[i]) {
                        lengths[i] = lengths[j] + 1;
                    }
                }
                longest = Math.max(longest, lengths[i]);
            }
            return longest;
        }

        private void bringOthers(int p) {
            int parent = to.keyAt(p);
            int end = to.endOf(p);
            int ahead = NONE;
            for (int c = p + 1; c < end; c++) {
                if (to.depthAt(c) == to.depthAt(p) + 1) {
                    if (!staying[c]) {
                        change(brought(c, parent, ahead));
                    }
                    ahead = c;
                }
            }
        }

        /** The EDIT that puts the c-th NODE of to right behind the one ahead of it. */
        private Edit brought(int c, int parent, int ahead) {
            int key = to.keyAt(c);
            int i = w.whereOf(key);
            int a = ahead == NONE ? NONE : w.whereOf(to.keyAt(ahead));
            int at = a == NONE ? 0 : w.placeAt(a) + 1;
            if (i == NONE) {
                return Edit.give(key, to.labelAt(c), parent, at);
            }
            if (i < a && w.parentAt(i) == w.parentAt(a)) {
                at--;
            }
            return Edit.move(key, w.parentKeyAt(i), w.placeAt(i), parent, at);
        }
    }
}
