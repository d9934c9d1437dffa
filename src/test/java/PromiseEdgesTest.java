/** For each promise, a test of its own for each sentence of it that names an edge or a refusal. */
public final class PromiseEdgesTest extends Edges {
    private static final String LEAST = "-2147483648";
    private static final String MOST = "2147483647";

    public static void main(String[] args) throws Exception {
        readDocument();
        newObject();
        row();
        set();
        copy();
        copyRefused();
        element();
        show();
        holds();
        says();
        tree();
        fault();
        nodes();
        node();
        find();
        child();
        above();
        same();
        drop();
        difference();
        far();
        moves();
        patchOf();
        edit();
        touched();
        apply();
        sticks();
        invert();
        behind();
        squeeze();
        rebase();
        conflict();
        hand();
        put();
        forget();
        judge();
        judgeRefused();
        days();
        seed();
        image();
        restore();
        restoredShelves();
        status();
        mustHaveSeenAllRefusals();
        finish();
    }

    /** A call of one number that isn't one of a SHELF, a TREE or a PATCH: _ stands for it. */
    private static void noSuch(String call, int count, int number) {
        String[] numbers = {"-1", "-2", Integer.toString(count), Integer.toString(count + 1), LEAST, MOST};
        for (String wrong : numbers) {
            refused(call.replace("_", wrong), number);
        }
    }

    /** TREES a1(b2,c3(d4)) and x1(b2), PATCH 0 from the one to the other. */
    private static void grownTwo() {
        grown(0, "a1(b2,c3(d4))");
        grown(1, "x1(b2)");
        due("difference(0, 1)", 0);
        lookEdits(0, "N1:a>x T4:d3.0 T3:c1.1");
    }

    private static void newObject() {
        sentence(1, "No TREES, no PATCHES.");
        due("status(0)", 0);
        due("status(1)", 0);
        due("status(2)", 0);
        due("status(3)", 0);
        due("status(4)", 0);
        due("nodes(0)", -1);
        due("patchOf(0, 0)", -5);
    }

    // ---- SHELVES

    private static void row() {
        sentence(2, "SHELF s holds a new ROW: 1.");
        due("row(0, 0, 0)", 1);
        due("row(7, 3, 160)", 1);
        due("set(7, 159, 1)", 1);
        due("row(7, 2, 160)", 1);
        due("holds(7)", 102);
        due("element(7, 159)", 0);
        grown(0, "a1");
        named(1);
        due("show(7, 0)", 1);
        due("row(7, 1, 1)", 1);
        due("holds(7)", 101);
        due("copy(7, 7, 0, 0, 1)", 1);
        due("forget()", 0);
        due("holds(7)", 101);
        due("status(6)", 2);

        sentence(2, "-1; -4; -6 SORT; -7 n above 160.");
        due("row(0, 1, 3)", 1);
        due("set(0, 2, 9)", 1);
        noSuch("row(_, 0, 1)", 8, -1);
        refused("row(0, 0, -1)", -4);
        refused("row(0, 0, " + LEAST + ")", -4);
        refused("row(0, -1, 1)", -6);
        refused("row(0, 4, 1)", -6);
        refused("row(0, " + LEAST + ", 1)", -6);
        refused("row(0, " + MOST + ", 1)", -6);
        refused("row(0, 0, 161)", -7);
        refused("row(0, 0, " + MOST + ")", -7);
        due("row(0, 0, 160)", 1);
        due("row(0, 3, 0)", 1);
    }

    private static void set() {
        sentence(3, "Element i of the ROW becomes v: 1.");
        due("row(0, 3, 3)", 1);
        due("set(0, 0, " + Long.MAX_VALUE + ")", 1);
        due("set(0, 2, " + Long.MIN_VALUE + ")", 1);
        due("element(0, 0)", Long.MAX_VALUE);
        due("element(0, 1)", 0);
        due("element(0, 2)", Long.MIN_VALUE);

        sentence(3, "-1; -2; -3; -5.");
        grown(0, "a1");
        named(1);
        due("show(1, 0)", 1);
        due("row(2, 0, 0)", 1);
        due("row(3, 0, 160)", 1);
        noSuch("set(_, 0, 1)", 8, -1);
        refused("set(1, 0, 1)", -2);
        refused("set(0, 0, 1)", -3);
        refused("set(2, 0, 1)", -5);
        noSuch("set(3, _, 1)", 160, -5);
        due("set(3, 159, 1)", 1);
        due("show(3, -1)", 0);
        refused("set(3, 0, 1)", -3);
    }

    private static void dueElements(int s, String want) {
        for (int i = 0; i < want.length(); i++) {
            look("element(" + s + ", " + i + ")", want.charAt(i));
        }
    }

    private static void copy() {
        sentence(4, "n of them, come to elements j, j + 1, .. of that in q (as they were ahead): 1.");
        write(0, "abcdef");
        write(1, "uvwxyz");
        due("copy(0, 1, 0, 0, 0)", 1);
        dueElements(1, "uvwxyz");
        due("copy(0, 1, 6, 6, 0)", 1);
        due("copy(0, 0, 6, 6, 0)", 1);
        due("copy(0, 1, 5, 0, 1)", 1);
        dueElements(1, "fvwxyz");
        due("copy(0, 1, 0, 5, 1)", 1);
        dueElements(1, "fvwxya");
        due("copy(0, 1, 0, 0, 6)", 1);
        dueElements(1, "abcdef");
        due("copy(0, 0, 0, 1, 5)", 1);
        dueElements(0, "aabcde");
        due("copy(1, 1, 1, 0, 5)", 1);
        dueElements(1, "bcdeff");
        due("copy(1, 1, 0, 0, 6)", 1);
        dueElements(1, "bcdeff");
        due("row(2, 0, 0)", 1);
        due("copy(2, 2, 0, 0, 0)", 1);
        due("copy(2, 0, 0, 6, 0)", 1);
    }

    private static void copyRefused() {
        sentence(4, "-1; -2 also of two SORTS (when both hold something)");
        grown(0, "a1");
        named(1);
        write(0, "abc");
        due("row(1, 1, 3)", 1);
        due("show(2, 0)", 1);
        noSuch("copy(_, 0, 0, 0, 1)", 8, -1);
        noSuch("copy(0, _, 0, 0, 1)", 8, -1);
        refused("copy(0, 1, 0, 0, 1)", -2);
        refused("copy(1, 0, 0, 0, 0)", -2);
        refused("copy(2, 0, 0, 0, 1)", -2);
        refused("copy(0, 2, 0, 0, 1)", -2);
        refused("copy(2, 2, 0, 0, 0)", -2);
        refused("copy(2, 3, 0, 0, 1)", -2);
        refused("copy(3, 2, 0, 0, 1)", -2);

        sentence(4, "-3 either; -4 n; -5 i or j below 0, or an end that isn't there.");
        write(0, "abc");
        write(1, "uvwxy");
        refused("copy(0, 2, 0, 0, 1)", -3);
        refused("copy(2, 0, 0, 0, 1)", -3);
        refused("copy(2, 2, 0, 0, 0)", -3);
        refused("copy(0, 1, 0, 0, -1)", -4);
        refused("copy(0, 1, 0, 0, " + LEAST + ")", -4);
        refused("copy(0, 1, -1, 0, 1)", -5);
        refused("copy(0, 1, 0, -1, 1)", -5);
        refused("copy(0, 1, -1, 0, 0)", -5);
        refused("copy(0, 1, 0, -1, 0)", -5);
        refused("copy(0, 1, " + LEAST + ", 0, 1)", -5);
        refused("copy(0, 1, 0, " + LEAST + ", 1)", -5);
        refused("copy(0, 1, 0, 0, 4)", -5);
        refused("copy(0, 1, 1, 0, 3)", -5);
        refused("copy(0, 1, 4, 0, 0)", -5);
        refused("copy(1, 0, 0, 0, 4)", -5);
        refused("copy(1, 0, 0, 1, 3)", -5);
        refused("copy(1, 0, 0, 4, 0)", -5);
        refused("copy(0, 1, " + MOST + ", 0, 1)", -5);
        refused("copy(0, 1, 0, " + MOST + ", 1)", -5);
        refused("copy(0, 1, 1, 1, " + MOST + ")", -5);
        refused("copy(0, 1, " + MOST + ", " + MOST + ", " + MOST + ")", -5);
        due("copy(0, 1, 0, 2, 3)", 1);
        due("copy(1, 0, 2, 0, 3)", 1);
    }

    private static void element() {
        sentence(5, "Element i of the ROW; 0 if there is none (nothing is refused).");
        due("row(0, 3, 2)", 1);
        due("set(0, 0, 7)", 1);
        due("set(0, 1, 8)", 1);
        due("element(0, 0)", 7);
        due("element(0, 1)", 8);
        due("element(0, 2)", 0);
        due("element(0, -1)", 0);
        due("element(0, " + LEAST + ")", 0);
        due("element(0, " + MOST + ")", 0);
        due("element(1, 0)", 0);
        due("element(-1, 0)", 0);
        due("element(8, 0)", 0);
        due("element(" + LEAST + ", 0)", 0);
        due("element(" + MOST + ", 0)", 0);
        grown(0, "a1");
        named(1);
        due("show(0, 0)", 1);
        due("element(0, 0)", 0);
        nothingRefused();
    }

    private static void show() {
        sentence(6, "SHELF s holds one of the PATCHES, or NOTHING (p NONE): 1, 0. -1.");
        refused("show(0, 0)", -1);
        grown(0, "a1");
        named(3);
        due("show(0, 0)", 1);
        due("show(1, 2)", 1);
        due("show(1, 0)", 1);
        due("holds(1)", 0);
        due("show(1, -1)", 0);
        due("holds(1)", -1);
        due("show(1, -1)", 0);
        due("row(2, 0, 3)", 1);
        due("show(2, 2)", 1);
        due("holds(2)", 2);
        refused("set(2, 0, 1)", -2);
        due("row(2, 0, 3)", 1);
        due("show(2, -1)", 0);
        due("holds(2)", -1);
        noSuch("show(_, 0)", 8, -1);
        noSuch("show(_, -1)", 8, -1);
        for (String p : new String[] {"3", "-2", LEAST, MOST}) {
            refused("show(0, " + p + ")", -1);
        }
    }

    private static void holds() {
        sentence(7, "What SHELF s holds: NONE NOTHING, or no such SHELF; a PATCH's number; 100 and the SORT of a ROW.");
        grown(0, "a1");
        named(16);
        due("holds(0)", -1);
        due("show(0, 0)", 1);
        due("holds(0)", 0);
        due("show(0, 15)", 1);
        due("holds(0)", 15);
        for (int sort = 0; sort <= 3; sort++) {
            due("row(0, " + sort + ", 0)", 1);
            due("holds(0)", 100 + sort);
        }
        due("holds(-1)", -1);
        due("holds(8)", -1);
        due("holds(" + LEAST + ")", -1);
        due("holds(" + MOST + ")", -1);
        nothingRefused();
    }

    private static void says() {
        sentence(8, "0 any: how many EDITS; 1 made by difference(): FAR; 2 made of another one (invert(), squeeze(), rebase()): "
                + "the number of that then; 3 rebased: how many CONFLICTS. (A rebased one is of sorts 0, 2 and 3.)");
        grownTwo();
        due("difference(0, 0)", 1);
        due("invert(0)", 2);
        due("squeeze(1)", 3);
        due("rebase(0, 1)", 4);
        due("rebase(2, 1)", 5);
        due("behind(0, 2)", 6);
        due("hand(1, 97, 0)", 7);
        due("put(0, 4, 1, 0)", 8);
        due("rebase(7, 1)", 9);
        int[][] said = {{3, 3, -2, -2}, {0, 0, -2, -2}, {3, -2, 0, -2}, {0, -2, 1, -2}, {0, -2, 0, 0}, {3, -2, 2, 0},
            {6, -2, -2, -2}, {1, -2, -2, -2}, {1, -2, -2, -2}, {0, -2, 7, 1}};
        for (int p = 0; p < said.length; p++) {
            due("show(3, " + p + ")", 1);
            for (int as = 0; as <= 3; as++) {
                if (said[p][as] == -2) {
                    refused("says(3, " + as + ")", -2);
                } else {
                    due("says(3, " + as + ")", said[p][as]);
                }
            }
        }

        sentence(8, "2 made of another one (invert(), squeeze(), rebase()): the number of that then");
        grownTwo();
        due("invert(0)", 1);
        due("image()", 2);
        due("forget()", 1);
        due("forget()", 0);
        named(3);
        due("invert(2)", 3);
        due("show(0, 3)", 1);
        due("says(0, 2)", 2);
        due("restore()", 2);
        due("show(0, 1)", 1);
        due("says(0, 2)", 0);

        sentence(8, "-1 SHELF, as; -2 also one that isn't such; -3.");
        grownTwo();
        due("show(0, 0)", 1);
        noSuch("says(_, 0)", 8, -1);
        noSuch("says(0, _)", 4, -1);
        refused("says(0, 2)", -2);
        refused("says(0, 3)", -2);
        refused("says(7, 0)", -2);
        refused("says(7, 1)", -2);
        refused("says(1, 0)", -3);
        due("show(0, -1)", 0);
        refused("says(0, 1)", -3);
    }

    // ---- TREES

    private static void tree() {
        sentence(9, "A new TREE by the ROW in SHELF s: its number.");
        grown(0, "z60");
        lookTree(0, "z60");
        StringBuilder text = new StringBuilder("a10(");
        for (int key = 11; key < 50; key++) {
            text.append(key == 11 ? "b" : ",b").append(key);
        }
        String full = text.append(')').toString();
        grown(full.length() == 160 ? 1 : -1, full);
        lookTree(1, full);
        due("nodes(1)", 40);
        due("tree(7)", 2);
        due("same(1, 2)", 0);

        sentence(9, "-1; -2; -3; -6 a FAULT; -7.");
        grown(0, "a1");
        named(1);
        due("show(0, 0)", 1);
        noSuch("tree(_)", 8, -1);
        refused("tree(0)", -2);
        refused("tree(1)", -3);
        due("row(2, 0, 0)", 1);
        refused("tree(2)", -6);
        due("row(2, 3, 160)", 1);
        refused("tree(2)", -6);
        for (int t = 1; t < 16; t++) {
            due("tree(7)", t);
        }
        refused("tree(7)", -7);
        refused("tree(2)", -6);
        due("drop(15)", 15);
        due("tree(7)", 15);
    }

    private static void fault() {
        sentence(10, "The FAULT of the latest tree() that came to a ROW; NONE: there was none, or none yet.");
        due("fault()", -1);
        refused("tree(0)", -3);
        due("fault()", -1);
        due("row(0, 0, 0)", 1);
        refused("tree(0)", -6);
        due("fault()", 0);
        faulty("a1(b2,", 6);
        refused("tree(8)", -1);
        due("fault()", 6);
        refused("tree(1)", -3);
        due("fault()", 6);
        write(2, "a1");
        due("tree(2)", 0);
        due("fault()", -1);
        refused("tree(7)", -6);
        due("fault()", 6);
        named(1);
        due("show(1, 0)", 1);
        refused("tree(1)", -2);
        due("fault()", 6);
        due("row(7, 0, 1)", 1);
        due("image()", 1);
        due("fault()", 6);
        due("tree(2)", 1);
        due("restore()", 1);
        due("fault()", -1);
        refused("tree(7)", -6);
        due("restore()", 1);
        due("fault()", 0);
        for (int t = 1; t < 16; t++) {
            due("tree(2)", t);
        }
        refused("tree(7)", -6);
        due("fault()", 0);
        refused("tree(2)", -7);
        due("fault()", -1);
    }

    private static void nodes() {
        sentence(11, "How many NODES. -1.");
        refused("nodes(0)", -1);
        grown(0, "a1");
        due("nodes(0)", 1);
        grown(1, wide(40));
        due("nodes(1)", 40);
        noSuch("nodes(_)", 2, -1);
        due("drop(1)", 1);
        refused("nodes(1)", -1);
    }

    private static void node() {
        sentence(12, "0 KEY, 1 LABEL (a is 97), 2 the KEY of its PARENT (0: the ROOT), 3 PLACE (0: the ROOT), 4 how many CHILDREN, "
                + "5 how deep (0: the ROOT), 6 how many NODES with all below it.");
        grown(0, "a60(z2(c3,d4(e5)),f1)");
        int[][] told = {{60, 97, 0, 0, 2, 0, 6}, {2, 122, 60, 0, 2, 1, 4}, {3, 99, 2, 0, 0, 2, 1}, {4, 100, 2, 1, 1, 2, 2},
            {5, 101, 4, 0, 0, 3, 1}, {1, 102, 60, 1, 0, 1, 1}};
        for (int i = 0; i < told.length; i++) {
            for (int what = 0; what <= 6; what++) {
                due("node(0, " + i + ", " + what + ")", told[i][what]);
            }
        }

        sentence(12, "-1; -5 no such one, another what.");
        grown(0, "a1(b2)");
        noSuch("node(_, 0, 0)", 1, -1);
        noSuch("node(0, _, 0)", 2, -5);
        noSuch("node(0, 1, _)", 7, -5);
    }

    private static void find() {
        sentence(13, "Which NODE by ORDER has a KEY; NONE. -11 (counted as -1).");
        grown(0, "a60(b2(c3),d1)");
        due("find(0, 60)", 0);
        due("find(0, 2)", 1);
        due("find(0, 1)", 3);
        for (String key : new String[] {"0", "-1", "4", "59", "61", LEAST, MOST}) {
            due("find(0, " + key + ")", -1);
        }
        nothingRefused();
        noSuch("find(_, 60)", 1, -11);
    }

    private static void child() {
        sentence(14, "The KEY of the CHILD at a PLACE. -1; -5 no such KEY, PLACE.");
        grown(0, "a60(b2(c3,d4(e5)),f1)");
        due("child(0, 60, 0)", 2);
        due("child(0, 60, 1)", 1);
        due("child(0, 2, 0)", 3);
        due("child(0, 2, 1)", 4);
        due("child(0, 4, 0)", 5);
        noSuch("child(_, 60, 0)", 1, -1);
        for (String key : new String[] {"0", "-1", "6", "61", LEAST, MOST}) {
            refused("child(0, " + key + ", 0)", -5);
        }
        noSuch("child(0, 60, _)", 2, -5);
        noSuch("child(0, 1, _)", 0, -5);
    }

    private static void above() {
        sentence(15, "The KEY of ABOVE. -1; -5 no such KEY.");
        grown(0, "a60(b2(c3),d1)");
        due("above(0, 60, 60)", 60);
        due("above(0, 3, 1)", 60);
        due("above(0, 3, 2)", 2);
        noSuch("above(_, 60, 60)", 1, -1);
        for (String key : new String[] {"0", "-1", "4", "61", LEAST, MOST}) {
            refused("above(0, " + key + ", 60)", -5);
            refused("above(0, 60, " + key + ")", -5);
        }
    }

    private static void same() {
        sentence(16, "0: all is the same; else the first place (1 on) in ORDER at which KEY, LABEL or how deep differ, or only one "
                + "has a NODE. -1.");
        grown(0, "a1(b2,c3)");
        grown(1, "a1(b2,c3)");
        grown(2, "b1(b2,c3)");
        grown(3, "a4(b2,c3)");
        grown(4, "a1(b2,c4)");
        grown(5, "a1(b2(c3))");
        grown(6, "a1(b2,c3,d4)");
        grown(7, "a1");
        due("same(0, 0)", 0);
        due("same(0, 1)", 0);
        due("same(0, 2)", 1);
        due("same(0, 3)", 1);
        due("same(0, 4)", 3);
        due("same(0, 5)", 3);
        due("same(0, 6)", 4);
        due("same(6, 0)", 4);
        due("same(0, 7)", 2);
        due("same(7, 0)", 2);
        due("difference(6, 0)", 0);
        due("apply(0, 6)", 3);
        due("same(0, 6)", 0);
        due("difference(0, 7)", 1);
        due("apply(1, 6)", 1);
        due("same(0, 6)", 2);
        due("same(6, 0)", 2);
        noSuch("same(_, 0)", 8, -1);
        noSuch("same(0, _)", 8, -1);
    }

    private static void drop() {
        sentence(17, "The last TREE is no more: how many there are. -1 none such; -6 it isn't the last.");
        refused("drop(0)", -1);
        grown(0, "a1");
        grown(1, "a1(b2)");
        grown(2, "a1(b3)");
        refused("drop(0)", -6);
        refused("drop(1)", -6);
        noSuch("drop(_)", 3, -1);
        due("drop(2)", 2);
        refused("drop(2)", -1);
        refused("drop(0)", -6);
        due("drop(1)", 1);
        due("drop(0)", 0);
        refused("drop(0)", -1);
        refused("drop(-1)", -1);
        grown(0, "b2");
        lookTree(0, "b2");
    }

    // ---- DIFFERENCES

    private static void difference() {
        sentence(18, "The DIFFERENCE as a new PATCH: its number.");
        grownTwo();
        due("difference(0, 0)", 1);
        lookEdits(1, "");
        due("difference(1, 0)", 2);
        lookEdits(2, "N1:x>a G3:c1.1 G4:d3.0");

        sentence(18, "-1; -6 ROOTS; -7 also above 120 EDITS, or W had above 80 NODES.");
        grownTwo();
        grown(2, "x2(b1)");
        noSuch("difference(_, 0)", 3, -1);
        noSuch("difference(0, _)", 3, -1);
        refused("difference(0, 2)", -6);
        refused("difference(2, 0)", -6);
        named(16);
        refused("difference(0, 2)", -6);
        refused("difference(0, 1)", -7);
        refused("difference(0, 0)", -7);
        due("forget()", 15);
        due("difference(0, 1)", 15);
    }

    private static void far() {
        sentence(19, "FAR. -1; -6 ROOTS.");
        grownTwo();
        grown(2, "x2(b1)");
        due("far(0, 0)", 0);
        due("far(0, 1)", 3);
        due("far(1, 0)", 3);
        noSuch("far(_, 0)", 3, -1);
        noSuch("far(0, _)", 3, -1);
        refused("far(0, 2)", -6);
        refused("far(2, 1)", -6);
        named(16);
        due("far(0, 1)", 3);
        due("status(4)", 16);
    }

    private static void moves() {
        sentence(20, "How many MOVES the DIFFERENCE has. -1; -6 ROOTS.");
        grownTwo();
        grown(2, "x2(b1)");
        grown(3, "a1(d4,c3(b2))");
        due("moves(0, 0)", 0);
        due("moves(0, 1)", 0);
        due("moves(0, 3)", 2);
        noSuch("moves(_, 0)", 4, -1);
        noSuch("moves(0, _)", 4, -1);
        refused("moves(0, 2)", -6);
        refused("moves(2, 1)", -6);
        named(16);
        due("moves(0, 3)", 2);
    }

    // ---- PATCHES

    private static void patchOf() {
        sentence(21, "Of a PATCH: 0 how many EDITS, 1 STAMP, 2 to 5: how many EDITS 0 to 3. -5: no such one, another what.");
        refused("patchOf(0, 0)", -5);
        grown(0, "a1(b2,c3,d4,e5)");
        grown(1, "a1(x2(d4,c3),f6,f7,f8)");
        due("difference(0, 0)", 0);
        due("difference(0, 1)", 1);
        lookEdits(1, "N2:b>x G6:f1.1 G7:f1.2 G8:f1.3 M4:1.5>2.0 M3:1.4>2.1 T5:e1.4");
        int[] none = {0, 1, 0, 0, 0, 0};
        int[] some = {7, 2, 1, 1, 3, 2};
        for (int what = 0; what <= 5; what++) {
            due("patchOf(0, " + what + ")", none[what]);
            due("patchOf(1, " + what + ")", some[what]);
        }
        noSuch("patchOf(_, 0)", 2, -5);
        noSuch("patchOf(1, _)", 6, -5);
    }

    private static void edit() {
        sentence(22, "Of the i-th EDIT: 0 which (0 to 3), 1 key, 2 NAME old, TAKE, GIVE label, MOVE 0, 3 NAME new, others parent, "
                + "4 place (NAME 0), 5 MOVE to, others 0, 6 MOVE at, others 0. -1; -5 no such one, another what.");
        grown(0, "a1(b2,c3,d4,e5)");
        grown(1, "a1(x2(d4,c3),f60)");
        due("difference(0, 0)", 0);
        due("difference(0, 1)", 1);
        int[][] told = {{0, 2, 98, 120, 0, 0, 0}, {2, 60, 102, 1, 1, 0, 0}, {3, 4, 0, 1, 3, 2, 0}, {3, 3, 0, 1, 2, 2, 1},
            {1, 5, 101, 1, 2, 0, 0}};
        for (int i = 0; i < told.length; i++) {
            for (int what = 0; what <= 6; what++) {
                due("edit(1, " + i + ", " + what + ")", told[i][what]);
            }
        }
        noSuch("edit(_, 0, 0)", 2, -1);
        noSuch("edit(1, _, 0)", 5, -5);
        noSuch("edit(1, 0, _)", 7, -5);
        noSuch("edit(0, _, 0)", 0, -5);
    }

    private static void touched() {
        sentence(23, "KEYS that EDITS are of (bits): 1 to 30 (part 0), 31 to 60 less 30 (1). -1; -5 another part.");
        grown(0, "a1(b29,b30,b31,b60,b2)");
        due("difference(0, 0)", 0);
        due("touched(0, 0)", 0);
        due("touched(0, 1)", 0);
        int[] keys = {1, 30, 31, 60, 29};
        for (int i = 0; i < keys.length; i++) {
            due("hand(" + keys[i] + ", 120, 0)", i + 1);
            int key = keys[i];
            due("touched(" + (i + 1) + ", 0)", key <= 30 ? 1 << key : 0);
            due("touched(" + (i + 1) + ", 1)", key > 30 ? 1 << key - 30 : 0);
        }
        due("put(0, 2, 60, 0)", 6);
        due("touched(6, 0)", 4);
        due("touched(6, 1)", 0);
        due("behind(1, 2)", 7);
        due("behind(7, 1)", 8);
        due("behind(8, 4)", 9);
        due("touched(9, 0)", 2 + (1 << 30));
        due("touched(9, 1)", 1 << 30);
        noSuch("touched(_, 0)", 10, -1);
        noSuch("touched(1, _)", 2, -5);
    }

    private static void apply() {
        sentence(24, "A PATCH is APPLIED to a TREE: how many NODES it has then. -1; -6 it doesn't FIT; nothing of it then.");
        grownTwo();
        due("difference(0, 0)", 1);
        due("apply(1, 0)", 4);
        refused("apply(0, 1)", -6);
        due("apply(0, 0)", 2);
        lookTree(0, "x1(b2)");
        refused("apply(0, 0)", -6);
        due("invert(0)", 2);
        due("behind(2, 2)", 3);
        due("sticks(3, 0)", 3);
        refused("apply(3, 0)", -6);
        lookTree(0, "x1(b2)");
        due("apply(2, 0)", 4);
        noSuch("apply(_, 0)", 4, -1);
        noSuch("apply(0, _)", 2, -1);
    }

    private static void sticks() {
        sentence(25, "The first EDIT that wouldn't FIT, were it APPLIED; NONE: it FITS. -11 (counted as -1).");
        grownTwo();
        due("difference(0, 0)", 1);
        due("sticks(0, 0)", -1);
        due("sticks(1, 0)", -1);
        due("sticks(0, 1)", 0);
        due("behind(0, 0)", 2);
        due("sticks(2, 0)", 3);
        grown(2, "a1(b2,c3(d4,e5))");
        due("sticks(0, 2)", 2);
        lookTree(0, "a1(b2,c3(d4))");
        nothingRefused();
        noSuch("sticks(_, 0)", 3, -11);
        noSuch("sticks(0, _)", 3, -11);
    }

    private static void invert() {
        sentence(26, "INVERSE as a new PATCH: its number. -1; -7.");
        refused("invert(0)", -1);
        grownTwo();
        due("invert(0)", 1);
        lookEdits(1, "G3:c1.1 G4:d3.0 N1:x>a");
        due("difference(0, 0)", 2);
        due("invert(2)", 3);
        lookEdits(3, "");
        noSuch("invert(_)", 4, -1);
        named(16);
        refused("invert(16)", -1);
        refused("invert(0)", -7);
        refused("invert(2)", -7);
        due("forget()", 15);
        due("invert(0)", 15);
    }

    private static void behind() {
        sentence(27, "EDITS of p, then those of q, as a new PATCH: its number. -1; -7 also above 120 EDITS.");
        grownTwo();
        due("difference(0, 0)", 1);
        due("behind(1, 1)", 2);
        lookEdits(2, "");
        due("behind(0, 1)", 3);
        lookEdits(3, "N1:a>x T4:d3.0 T3:c1.1");
        due("hand(1, 99, 0)", 4);
        due("behind(4, 0)", 5);
        lookEdits(5, "N1:a>c N1:a>x T4:d3.0 T3:c1.1");
        due("behind(0, 4)", 6);
        lookEdits(6, "N1:a>x T4:d3.0 T3:c1.1 N1:a>c");
        noSuch("behind(_, 0)", 7, -1);
        noSuch("behind(0, _)", 7, -1);
        due("behind(5, 5)", 7);
        due("behind(7, 7)", 8);
        due("behind(8, 8)", 9);
        due("behind(9, 9)", 10);
        refused("behind(10, 10)", -7);
        due("behind(10, 9)", 11);
        due("behind(11, 8)", 12);
        due("behind(12, 7)", 13);
        due("patchOf(13, 0)", 120);
        refused("behind(13, 4)", -7);
        due("behind(1, 13)", 14);
        due("status(4)", 15);
        named(16);
        refused("behind(1, 1)", -7);
        refused("behind(16, 0)", -1);
    }

    private static void squeeze() {
        sentence(28, "SQUEEZED as a new PATCH: its number. -1; -7.");
        refused("squeeze(0)", -1);
        grownTwo();
        due("squeeze(0)", 1);
        lookEdits(1, "N1:a>x T4:d3.0 T3:c1.1");
        due("invert(0)", 2);
        due("behind(0, 2)", 3);
        due("squeeze(3)", 4);
        lookEdits(4, "");
        due("squeeze(4)", 5);
        lookEdits(5, "");
        lookEdits(3, "N1:a>x T4:d3.0 T3:c1.1 G3:c1.1 G4:d3.0 N1:x>a");
        noSuch("squeeze(_)", 6, -1);
        named(16);
        refused("squeeze(16)", -1);
        refused("squeeze(0)", -7);
        refused("squeeze(4)", -7);
        due("forget()", 15);
        due("squeeze(0)", 15);
    }

    private static void rebase() {
        sentence(29, "REBASED over a TREE (which stays as it is) as a new PATCH: its number. -1; -7.");
        refused("rebase(0, 0)", -1);
        grownTwo();
        due("rebase(0, 0)", 1);
        lookEdits(1, "N1:a>x T4:d3.0 T3:c1.1");
        lookTree(0, "a1(b2,c3(d4))");
        due("rebase(0, 1)", 2);
        lookEdits(2, "");
        lookTree(1, "x1(b2)");
        noSuch("rebase(_, 0)", 3, -1);
        noSuch("rebase(0, _)", 2, -1);
        named(16);
        refused("rebase(16, 0)", -1);
        refused("rebase(0, 2)", -1);
        refused("rebase(0, 0)", -7);
        due("forget()", 15);
        due("rebase(15, 0)", -1);
        due("rebase(0, 0)", 15);
    }

    private static void conflict() {
        sentence(30, "Of the i-th CONFLICT of a rebased PATCH: 0 which EDIT of q (its place), 1 why. -1; -5 none such, another what, "
                + "not rebased.");
        grownTwo();
        grown(2, "c1(x3(d4(e5)))");
        due("rebase(0, 2)", 1);
        lookConflicts(1, "0:2 1:3 2:3");
        due("conflict(1, 0, 0)", 0);
        due("conflict(1, 0, 1)", 2);
        due("conflict(1, 2, 0)", 2);
        due("conflict(1, 2, 1)", 3);
        noSuch("conflict(_, 0, 0)", 2, -1);
        noSuch("conflict(1, _, 0)", 3, -5);
        noSuch("conflict(1, 0, _)", 2, -5);
        noSuch("conflict(1, 1, _)", 2, -5);
        refused("conflict(0, 0, 0)", -5);
        due("rebase(0, 0)", 2);
        refused("conflict(2, 0, 0)", -5);
        due("squeeze(1)", 3);
        refused("conflict(3, 0, 0)", -5);
        due("invert(1)", 4);
        refused("conflict(4, 0, 0)", -5);
        due("behind(1, 1)", 5);
        refused("conflict(5, 0, 0)", -5);
        due("rebase(1, 2)", 6);
        refused("conflict(6, 0, 0)", -5);
        due("difference(0, 1)", 7);
        refused("conflict(7, 0, 0)", -5);
        due("hand(1, 120, 0)", 8);
        refused("conflict(8, 0, 0)", -5);
        due("put(0, 2, 3, 0)", 9);
        refused("conflict(9, 0, 0)", -5);

        sentence(30, "0 which EDIT of q (its place), 1 why");
        grown(0, "a1");
        grown(1, "c1");
        due("hand(1, 98, 0)", 0);
        for (int p = 1; p <= 6; p++) {
            due("behind(" + (p - 1) + ", " + (p - 1) + ")", p);
        }
        due("behind(6, 5)", 7);
        due("behind(7, 4)", 8);
        due("behind(8, 3)", 9);
        due("rebase(9, 1)", 10);
        due("patchOf(10, 0)", 0);
        due("show(0, 10)", 1);
        due("says(0, 3)", 120);
        due("conflict(10, 119, 0)", 119);
        due("conflict(10, 119, 1)", 2);
        refused("conflict(10, 120, 0)", -5);
    }

    private static void hand() {
        sentence(31, "NAME of a KEY of a TREE as a new PATCH of one EDIT: its number.");
        grown(0, "m60(n1)");
        due("hand(60, 97, 0)", 0);
        lookEdits(0, "N60:m>a");
        due("hand(1, 122, 0)", 1);
        lookEdits(1, "N1:n>z");
        due("hand(1, 110, 0)", 2);
        lookEdits(2, "N1:n>n");
        lookTree(0, "m60(n1)");

        sentence(31, "-1; -5 no such KEY; -6 no such LABEL (97 to 122); -7.");
        grown(0, "m60(n1)");
        noSuch("hand(60, 97, _)", 1, -1);
        for (String key : new String[] {"0", "-1", "2", "59", "61", LEAST, MOST}) {
            refused("hand(" + key + ", 97, 0)", -5);
        }
        for (String label : new String[] {"96", "123", "0", "-1", "65", "353", LEAST, MOST}) {
            refused("hand(60, " + label + ", 0)", -6);
        }
        named(16);
        refused("hand(2, 97, 0)", -5);
        refused("hand(60, 96, 0)", -6);
        refused("hand(60, 97, 0)", -7);
        due("forget()", 15);
        due("hand(60, 97, 0)", 15);
    }

    private static void put() {
        sentence(32, "MOVE of a KEY of a TREE as a new PATCH of one EDIT, if it FITS: its number.");
        grown(0, "a60(b2(c3),d4)");
        due("put(0, 2, 60, 0)", 0);
        lookEdits(0, "M2:60.0>60.0");
        due("put(0, 2, 60, 1)", 1);
        lookEdits(1, "M2:60.0>60.1");
        due("put(0, 3, 60, 2)", 2);
        lookEdits(2, "M3:2.0>60.2");
        due("put(0, 4, 3, 0)", 3);
        lookEdits(3, "M4:60.1>3.0");
        lookTree(0, "a60(b2(c3),d4)");

        sentence(32, "-1; -5 no such KEY, to; -6 it doesn't FIT; -7.");
        grown(0, "a60(b2(c3),d1)");
        noSuch("put(_, 2, 1, 0)", 1, -1);
        for (String key : new String[] {"0", "-1", "4", "61", LEAST, MOST}) {
            refused("put(0, " + key + ", 60, 0)", -5);
            refused("put(0, 2, " + key + ", 0)", -5);
        }
        refused("put(0, 2, 60, 2)", -6);
        refused("put(0, 3, 60, 3)", -6);
        refused("put(0, 2, 60, -1)", -6);
        refused("put(0, 2, 1, 1)", -6);
        refused("put(0, 2, 1, " + LEAST + ")", -6);
        refused("put(0, 2, 1, " + MOST + ")", -6);
        refused("put(0, 2, 2, 0)", -6);
        refused("put(0, 2, 3, 0)", -6);
        refused("put(0, 60, 60, 0)", -6);
        refused("put(0, 60, 3, 0)", -6);
        due("hand(60, 122, 0)", 0);
        for (int p = 1; p < 16; p++) {
            due("put(0, 2, 1, 0)", p);
        }
        refused("put(0, 4, 1, 0)", -5);
        refused("put(0, 2, 3, 0)", -6);
        refused("put(0, 2, 1, 0)", -7);
        due("forget()", 15);
        due("put(0, 2, 1, 0)", 15);
    }

    private static void forget() {
        sentence(33, "The last PATCH is no more (a SHELF that held it holds NOTHING): how many there are. -6 there is none.");
        refused("forget()", -6);
        grown(0, "a1");
        named(16);
        due("show(0, 15)", 1);
        due("show(1, 14)", 1);
        due("show(2, 15)", 1);
        due("status(6)", 4);
        due("forget()", 15);
        due("holds(0)", -1);
        due("holds(1)", 14);
        due("holds(2)", -1);
        due("holds(7)", 100);
        due("status(6)", 2);
        due("says(0, 0)", -3);
        named(16);
        due("holds(0)", -1);
        for (int p = 15; p >= 0; p--) {
            due("forget()", p);
        }
        refused("forget()", -6);
        due("holds(1)", -1);
        due("patchOf(0, 0)", -5);
        named(1);
        due("patchOf(0, 1)", 18);
    }

    // ---- told ROWS, DAYS, THE IMAGE, counts

    private static void judge() {
        sentence(34, "WRONG of a told ROW of KEYS, the first n elements (0 to 60) of the ROW in SHELF s; NONE.");
        grown(0, "a1");
        due("row(0, 0, 60)", 1);
        due("judge(0, 0, 0)", 0);
        due("judge(0, 0, 1)", 0);
        due("set(0, 0, 1)", 1);
        due("judge(0, 0, 1)", -1);
        due("judge(0, 0, 2)", 1);
        due("judge(0, 0, 60)", 1);
        due("row(1, 3, 0)", 1);
        due("judge(1, 0, 0)", 0);
        due("row(1, 3, 1)", 1);
        due("set(1, 0, " + ((5L << 32) + 1) + ")", 1);
        due("judge(1, 0, 1)", -1);
        due("set(1, 0, -1)", 1);
        due("judge(1, 0, 1)", 0);

        sentence(34, "the first n elements (0 to 60) of the ROW in SHELF s");
        grownSixty();
        due("row(0, 0, 61)", 1);
        due("set(0, 0, 1)", 1);
        for (int i = 1; i < 60; i++) {
            due("set(0, " + i + ", " + (i <= 20 ? 40 + i : i - 19) + ")", 1);
        }
        due("judge(0, 0, 60)", -1);
        due("judge(0, 0, 59)", 59);
        refused("judge(0, 0, 61)", -16);
        due("set(0, 59, 41)", 1);
        due("judge(0, 0, 60)", 59);
    }

    private static void judgeRefused() {
        sentence(34, "-11 also t; -12; -13; -14 n; -15 fewer elements; -16 n above 60");
        grown(0, "a1");
        named(1);
        due("show(0, 0)", 1);
        due("row(1, 2, 160)", 1);
        due("row(2, 2, 3)", 1);
        noSuch("judge(_, 0, 0)", 8, -11);
        noSuch("judge(1, _, 0)", 1, -11);
        refused("judge(0, 0, 0)", -12);
        refused("judge(3, 0, 0)", -13);
        refused("judge(1, 0, -1)", -14);
        refused("judge(1, 0, " + LEAST + ")", -14);
        refused("judge(2, 0, 4)", -15);
        refused("judge(2, 0, 61)", -15);
        refused("judge(1, 0, 161)", -15);
        refused("judge(1, 0, " + MOST + ")", -15);
        refused("judge(1, 0, 61)", -16);
        refused("judge(1, 0, 160)", -16);
        due("judge(2, 0, 3)", 0);
        due("judge(1, 0, 60)", 0);
    }

    private static void days() {
        sentence(35, "DAYS by draws on a TREE, n (1 to 60): how many NODES. -1; -6.");
        grown(0, "a1");
        noSuch("days(_, 1)", 1, -1);
        for (String n : new String[] {"0", "-1", "61", LEAST, MOST}) {
            refused("days(0, " + n + ")", -6);
        }
        due("status(5)", 1);
        due("days(0, 1)", 2);
        long nodes = call("days(0, 60)");
        due("nodes(0)", nodes);
        due("days(1, 1)", -1);
    }

    private static void seed() {
        sentence(36, "SEED becomes v: what it was (nothing is refused).");
        due("seed(" + MOST + ")", 1);
        due("seed(" + LEAST + ")", Integer.MAX_VALUE);
        due("seed(0)", Integer.MIN_VALUE);
        due("seed(-1)", 0);
        due("status(5)", -1);
        nothingRefused();
    }

    private static void image() {
        sentence(37, "THE IMAGE of all but SHELVES (and THE IMAGE, REFUSALS, the FAULT, how many PATCHES were ever made) is taken: "
                + "how many TREES.");
        due("image()", 0);
        write(7, "a1");
        for (int t = 0; t < 16; t++) {
            due("tree(7)", t);
        }
        due("image()", 16);
        due("image()", 16);
        due("drop(15)", 15);
        due("image()", 15);
        due("drop(14)", 14);
        due("restore()", 15);
        due("restore()", 15);

        sentence(37, "(and THE IMAGE, REFUSALS, the FAULT, how many PATCHES were ever made)");
        grown(0, "a1");
        named(2);
        due("row(0, 0, 2)", 1);
        due("image()", 1);
        named(5);
        due("set(0, 1, 4)", 1);
        refused("nodes(7)", -1);
        refused("tree(0)", -6);
        due("restore()", 1);
        due("status(4)", 5);
        due("status(11)", 1);
        due("status(16)", 1);
        due("fault()", 0);
        due("element(0, 1)", 4);
        due("restore()", 1);
        named(3);
        due("patchOf(1, 1)", 2);
        due("patchOf(2, 1)", 6);
    }

    private static void restore() {
        sentence(38, "-6 there is none.");
        refused("restore()", -6);
        due("image()", 0);
        grownTwo();
        due("seed(9)", 1);
        due("restore()", 0);
        due("status(1)", 0);
        due("status(2)", 0);
        due("status(3)", 0);
        due("status(4)", 1);
        due("status(5)", 1);
        due("nodes(0)", -1);
        due("patchOf(0, 0)", -5);
        due("restore()", 0);

        sentence(38, "All is as THE IMAGE has it");
        grownTwo();
        due("rebase(0, 1)", 1);
        due("squeeze(0)", 2);
        due("seed(5)", 1);
        due("image()", 2);
        for (int round = 0; round < 2; round++) {
            due("apply(2, 0)", 2);
            call("days(1, 60)");
            due("forget()", 2);
            due("forget()", 1);
            due("forget()", 0);
            due("hand(1, 113, 0)", 0);
            due("drop(1)", 1);
            write(6, "q9");
            due("tree(6)", 1);
            due("tree(6)", 2);
            due("restore()", 2);
            due("status(5)", 5);
            lookTree(0, "a1(b2,c3(d4))");
            lookTree(1, "x1(b2)");
            due("status(1)", 3);
            lookEdits(0, "N1:a>x T4:d3.0 T3:c1.1");
            lookEdits(1, "");
            lookEdits(2, "N1:a>x T4:d3.0 T3:c1.1");
            due("patchOf(2, 1)", 3);
            due("show(0, 1)", 1);
            due("says(0, 3)", 0);
            due("status(4)", 4 + round);
        }

        sentence(38, "how many TREES");
        write(7, "a1");
        for (int t = 0; t < 16; t++) {
            due("tree(7)", t);
        }
        named(16);
        due("image()", 16);
        for (int t = 15; t >= 0; t--) {
            due("drop(" + t + ")", t);
            due("forget()", t);
        }
        due("restore()", 16);
        due("status(1)", 16);
        refused("tree(7)", -7);
        refused("hand(1, 97, 0)", -7);
        due("nodes(15)", 1);
        due("patchOf(15, 1)", 16);
    }

    private static void restoredShelves() {
        sentence(38, "SHELVES with PATCHES hold those of these numbers, or NOTHING");
        grown(0, "a1");
        named(2);
        due("show(0, 1)", 1);
        due("show(1, 1)", 1);
        due("row(2, 1, 2)", 1);
        due("image()", 1);
        due("hand(1, 113, 0)", 2);
        due("show(0, 2)", 1);
        due("show(3, 0)", 1);
        due("row(4, 2, 3)", 1);
        due("set(4, 2, 8)", 1);
        due("show(2, 2)", 1);
        due("show(5, -1)", 0);
        due("restore()", 1);
        due("holds(0)", -1);
        due("holds(1)", 1);
        due("holds(2)", -1);
        due("holds(3)", 0);
        due("holds(4)", 102);
        due("element(4, 2)", 8);
        due("holds(5)", -1);
        due("holds(7)", 100);
        due("status(6)", 4);
        due("hand(1, 113, 0)", 2);
        due("holds(0)", -1);

        sentence(38, "hold those of these numbers, or NOTHING");
        grownTwo();
        due("show(0, 0)", 1);
        due("image()", 2);
        due("forget()", 0);
        due("holds(0)", -1);
        named(1);
        due("show(1, 0)", 1);
        due("says(1, 0)", 1);
        due("restore()", 2);
        due("holds(0)", -1);
        due("holds(1)", 0);
        due("says(1, 1)", 3);
    }

    private static void status() {
        sentence(39, "How many: 0 TREES, 1 PATCHES, 2 NODES of all TREES, 3 EDITS of all PATCHES, 4 PATCHES ever made, 5 SEED, "
                + "6 SHELVES that hold something; 11 to 17: REFUSALS -1 to -7.");
        int[] first = {0, 0, 0, 0, 0, 1, 0};
        for (int what = 0; what <= 6; what++) {
            due("status(" + what + ")", first[what]);
        }
        grownTwo();
        due("behind(0, 0)", 1);
        due("hand(1, 122, 0)", 2);
        due("forget()", 2);
        due("seed(-7)", 1);
        due("show(0, 0)", 1);
        due("show(1, 0)", 1);
        int[] then = {2, 2, 6, 9, 3, -7, 3};
        for (int what = 0; what <= 6; what++) {
            due("status(" + what + ")", then[what]);
        }
        due("apply(0, 0)", 2);
        due("status(2)", 4);
        due("drop(1)", 1);
        due("status(2)", 2);
        int[] numbers = {-1, -1, -2, -3, -3, -3, -4, -5, -6, -6, -7};
        String[] calls = {"nodes(9)", "find(9, 1)", "set(0, 0, 0)", "set(2, 0, 0)", "tree(2)", "judge(2, 0, 1)",
            "row(2, 0, -1)", "patchOf(9, 0)", "restore()", "days(0, 0)", "row(2, 0, 161)"};
        int[] counts = new int[8];
        for (int i = 0; i < calls.length; i++) {
            call(calls[i]);
            counts[-numbers[i]]++;
            for (int n = 1; n <= 7; n++) {
                due("status(" + (10 + n) + ")", counts[n]);
            }
        }

        sentence(39, "NONE for another what.");
        for (String what : new String[] {"-1", "7", "8", "9", "10", "18", "19", "-11", LEAST, MOST}) {
            due("status(" + what + ")", -1);
        }
        nothingRefused();
    }
}
