/** A test of its own for each sentence of 'Terms', and of 'REFUSALS', that names an edge. */
public final class TermsEdgesTest extends Edges {
    public static void main(String[] args) throws Exception {
        readDocument();
        wholeObject();
        nodesAndTrees();
        manyNodes();
        textsAsTheyGoOn();
        faultsOfKeysAndEnds();
        faultOf41();
        whatEditsDo();
        fitsOfNameAndTake();
        fitsOfGive();
        fitsOfMove();
        howManyEdits();
        howManyPatches();
        appliedAndInverse();
        differenceFirstAndLast();
        differenceStaying();
        differencePlaces();
        differenceAtItsLargest();
        squeezedNeighbours();
        squeezedNames();
        rebasedNameAndTake();
        rebasedGive();
        rebasedMove();
        rebasedAsAWhole();
        aboveFarWrong();
        daysNotThere();
        daysThere();
        draws();
        shelvesAndRows();
        whatTheNumbersMean();
        refusalsChangeNothing();
        refusalsInOrder();
        finish();
    }

    private static void wholeObject() {
        sentence(TERMS, "An object is used for at most 512 calls after it has been made");
        for (int call = 1; call < 512; call++) {
            due("seed(" + (call + 1) + ")", call);
        }
        due("seed(0)", 512);
    }

    // ---- TREES

    private static void nodesAndTrees() {
        sentence(TERMS, "A NODE has a KEY (1 to 60)");
        grown(0, "a1(b60)");
        faulty("a0", 1);
        faulty("a61", 1);
        faulty("a1(b0)", 4);
        faulty("a1(b61)", 4);
        faulty("a99", 1);

        sentence(TERMS, "a LABEL (a to z)");
        grown(0, "a1(z2)");
        look("node(0, 0, 1)", 97);
        look("node(0, 1, 1)", 122);
        faulty("`1", 0);
        faulty("{1", 0);
        faulty("A1", 0);
        faulty("a1(`2)", 3);
        faulty("a1({2)", 3);

        sentence(TERMS, "CHILDREN in a row, 0 on");
        grown(0, "a1(b2,c3)");
        due("child(0, 1, 0)", 2);
        due("child(0, 1, 1)", 3);
        refused("child(0, 1, 2)", -5);
        refused("child(0, 1, -1)", -5);
        due("node(0, 1, 4)", 0);
        refused("child(0, 2, 0)", -5);

        sentence(TERMS, "A TREE has a ROOT and all NODES below it");
        grown(0, "a7");
        due("nodes(0)", 1);
        due("node(0, 0, 2)", 0);
        due("node(0, 0, 4)", 0);
        due("node(0, 0, 6)", 1);
        faulty("", 0);
        faulty("a1,b2", 2);

        sentence(TERMS, "no two of the same KEY");
        faulty("a1(b1)", 4);
        faulty("a1(b2,c2)", 7);
        faulty("a1(b2(c3),d3)", 11);
        faulty("a10(b10)", 5);
        faulty("a7(b07)", 4);
        grown(0, "a1(b2,c12,d22)");

        sentence(TERMS, "its ORDER: each NODE ahead of its CHILDREN, these one behind the other, each with all below it");
        grown(0, "a9(b8(c7(d6)),e5(f4,g3))");
        for (int i = 0; i < 7; i++) {
            due("node(0, " + i + ", 0)", 9 - i);
        }
        refused("node(0, 7, 0)", -5);

        sentence(TERMS, "TREES have numbers, from 0 on, 16 at most");
        write(7, "a1");
        for (int t = 0; t < 16; t++) {
            due("tree(7)", t);
        }
        refused("tree(7)", -7);
        due("drop(15)", 15);
        due("tree(7)", 15);
        refused("tree(7)", -7);

        sentence(TERMS, "A NODE's PLACE is its number among the CHILDREN of its PARENT");
        grown(0, "a1(b2(d4),c3(e5,f6))");
        int[] places = {0, 0, 0, 1, 0, 1};
        for (int i = 0; i < places.length; i++) {
            due("node(0, " + i + ", 3)", places[i]);
        }
    }

    /** There are 60 KEYS, so that 60 NODES are the most there can be. */
    private static void manyNodes() {
        sentence(TERMS, "80 at most, no two of the same KEY");
        grownSixty();
        due("nodes(0)", 60);
        for (int i = 0; i < 60; i++) {
            look("find(0, " + (i == 0 ? 1 : i <= 20 ? 40 + i : i - 19) + ")", i);
        }
        look("node(0, 0, 4)", 59);
        look("node(0, 0, 6)", 60);
        look("node(0, 59, 3)", 58);
        look("child(0, 1, 58)", 40);
        refused("child(0, 1, 59)", -5);
        refused("node(0, 60, 0)", -5);
        refused("apply(0, 0)", -6);
        due("put(0, 41, 40, 0)", 1);
        due("apply(1, 0)", 60);
        look("node(0, 59, 0)", 41);
        look("node(0, 59, 5)", 2);
        due("status(2)", 60);
    }

    private static void textsAsTheyGoOn() {
        sentence(TERMS, "its KEY (1 or 2 digits, as many as stand there up to 2)");
        grown(0, "a1(b23)");
        lookTree(0, "a1(b23)");
        grown(1, "a05(b6)");
        lookTree(1, "a5(b6)");
        faulty("a", 1);
        faulty("ab", 1);
        faulty("a(", 1);
        faulty("a/", 1);
        faulty("a:", 1);
        faulty("a1/", 2);
        faulty("a1:", 2);
        faulty("a123", 3);
        faulty("a600", 3);
        faulty("a005", 1);

        sentence(TERMS, "if it has CHILDREN, ( NODES with , between )");
        faulty("a1()", 3);
        faulty("a1(,b2)", 3);
        faulty("a1((b2))", 3);
        faulty("a1(b2,)", 6);
        faulty("a1(b2,,c3)", 6);
        faulty("a1(b2,(c3))", 6);
        faulty("a1(b2)(c3)", 6);
        faulty("a1(b2(c3)(d4))", 9);
        faulty("a1(b2(c3)d4)", 9);
        faulty("a1(b2))", 6);
        faulty("a1(b2),c3", 6);
        grown(0, "a1(b2(c3),d4)");
        lookTree(0, "a1(b2(c3),d4)");

        sentence(TERMS, "The FAULT: the first place at which an element can't stand as such texts go on");
        faulty(")", 0);
        faulty("1", 0);
        faulty("a1)", 2);
        faulty("a1b2", 2);
        faulty("a1 ", 2);
        faulty(" a1", 0);
        faulty("a0(b0,", 1);
        faulty("a1(b2,)c0", 6);
        faulty("a1(b1,,", 4);
    }

    private static void faultsOfKeysAndEnds() {
        sentence(TERMS, "(the number of elements, if it ends too early)");
        String text = "a20(b21(c22,d3),e4)";
        write(6, text);
        for (int n = 0; n < text.length(); n++) {
            due("row(7, 0, " + n + ")", 1);
            due("copy(6, 7, 0, 0, " + n + ")", 1);
            if (n == 2 || n == 3) {
                due("tree(7)", n - 2);
                due("fault()", -1);
            } else {
                refused("tree(7)", -6);
                due("fault()", n);
            }
        }
        due("tree(6)", 2);

        sentence(TERMS, "of a KEY that may not be, or was there, its first digit");
        faulty("a61(", 1);
        faulty("a1(b00)", 4);
        faulty("a1(b61", 4);
        faulty("a1(b1", 4);
        faulty("a1(b2(c13),d13)", 12);
        grown(0, "a1(b13)");
    }

    private static void faultOf41() {
        sentence(TERMS, "the LABEL of a 41st NODE can't stand in a text");
        String forty = wide(40);
        int end = forty.length() - 1;
        write(6, wide(41));
        refused("tree(6)", -6);
        due("fault()", end + 1);
        due("row(7, 0, " + (end + 1) + ")", 1);
        due("copy(6, 7, 0, 0, " + (end + 1) + ")", 1);
        refused("tree(7)", -6);
        due("fault()", end + 1);
        due("set(7, " + end + ", 41)", 1);
        due("tree(7)", 0);
        lookTree(0, forty);
        due("set(6, " + end + ", 40)", 1);
        refused("tree(6)", -6);
        due("fault()", end + 1);
        due("set(6, " + (end + 2) + ", 48)", 1);
        refused("tree(6)", -6);
        due("fault()", end + 1);
    }

    // ---- EDITS

    private static void whatEditsDo() {
        sentence(TERMS, "a NODE without CHILDREN that isn't the ROOT is no more");
        grown(0, "a1(b2)");
        grown(1, "a1");
        due("difference(0, 1)", 0);
        lookEdits(0, "T2:b1.0");
        due("apply(0, 0)", 1);
        lookTree(0, "a1");
        grown(2, "a1(b2(c3))");
        refused("apply(0, 2)", -6);
        grown(3, "b2");
        refused("apply(0, 3)", -6);

        sentence(TERMS, "(those from there on have PLACES 1 more)");
        grown(0, "a1(b2,c3)");
        grown(1, "a1(d4,b2,c3)");
        grown(2, "a1(b2,d4,c3)");
        grown(3, "a1(b2,c3,d4)");
        for (int u = 1; u <= 3; u++) {
            due("difference(0, " + u + ")", u - 1);
            lookEdits(u - 1, "G4:d1." + (u - 1));
        }
        for (int p = 0; p < 3; p++) {
            grown(4, "a1(b2,c3)");
            due("apply(" + p + ", 4)", 4);
            due("same(" + (p + 1) + ", 4)", 0);
            due("find(4, 4)", p + 1);
            due("node(4, 3, 3)", 2);
            due("drop(4)", 4);
        }

        sentence(TERMS, "a NODE with all below it is taken out and becomes a CHILD of to, at a PLACE (counted without it)");
        grown(0, "a1(b2(e5),c3,d4)");
        due("put(0, 2, 1, 2)", 0);
        due("apply(0, 0)", 5);
        lookTree(0, "a1(c3,d4,b2(e5))");
        due("put(0, 2, 1, 2)", 1);
        due("apply(1, 0)", 5);
        lookTree(0, "a1(c3,d4,b2(e5))");
        due("put(0, 2, 1, 0)", 2);
        due("apply(2, 0)", 5);
        lookTree(0, "a1(b2(e5),c3,d4)");
        due("put(0, 2, 1, 1)", 3);
        due("apply(3, 0)", 5);
        lookTree(0, "a1(c3,b2(e5),d4)");
        due("put(0, 4, 5, 0)", 4);
        due("apply(4, 0)", 5);
        lookTree(0, "a1(c3,b2(e5(d4)))");
        due("put(0, 2, 3, 0)", 5);
        due("apply(5, 0)", 5);
        lookTree(0, "a1(c3(b2(e5(d4))))");
        due("put(0, 5, 1, 0)", 6);
        due("apply(6, 0)", 5);
        lookTree(0, "a1(e5(d4),c3(b2))");
    }

    /** PATCH 0 on a new TREE: it FITS, or it doesn't and nothing of it is APPLIED. */
    private static void fits(int t, String text, String then) {
        grown(t, text);
        due("sticks(0, " + t + ")", -1);
        int nodes = then.replaceAll("[^a-z]", "").length();
        due("apply(0, " + t + ")", nodes);
        lookTree(t, then);
    }

    private static void misfits(int t, String text) {
        grown(t, text);
        due("sticks(0, " + t + ")", 0);
        refused("apply(0, " + t + ")", -6);
        lookTree(t, text);
    }

    private static void fitsOfNameAndTake() {
        sentence(TERMS, "NAME: the KEY is there and has LABEL old");
        grown(0, "a1(b2)");
        due("hand(2, 120, 0)", 0);
        fits(1, "c7(d3(b2))", "c7(d3(x2))");
        fits(2, "b2(b3)", "x2(b3)");
        misfits(3, "a1(b3)");
        misfits(4, "a1(x2)");
        misfits(5, "a1(c2)");

        sentence(TERMS, "TAKE: it is there, has no CHILDREN, that LABEL, that PARENT and PLACE");
        grown(0, "a1(b2,c3)");
        grown(1, "a1(b2)");
        due("difference(0, 1)", 0);
        lookEdits(0, "T3:c1.1");
        fits(2, "d1(e4(f5),c3,g6)", "d1(e4(f5),g6)");
        misfits(3, "a1(b2,c4)");
        misfits(4, "a1(b2,c3(d4))");
        misfits(5, "a1(b2,d3)");
        misfits(6, "a1(b2(d4,c3))");
        misfits(7, "a1(c3,b2)");
        misfits(8, "a1(b2,d4,c3)");
        misfits(9, "c3");
    }

    private static void fitsOfGive() {
        sentence(TERMS, "GIVE: the KEY isn't there, the PARENT is, the PLACE is 0 to how many CHILDREN it has");
        grown(0, "a1(b2)");
        grown(1, "a1(b2,c3)");
        due("difference(0, 1)", 0);
        lookEdits(0, "G3:c1.1");
        fits(2, "a1(b2)", "a1(b2,c3)");
        fits(3, "d4(a1(b2,e5))", "d4(a1(b2,c3,e5))");
        misfits(4, "a1");
        misfits(5, "a4(b2)");
        misfits(6, "a1(c3)");
        misfits(7, "a3(b1(c2))");
        misfits(8, "a1(b2(c3))");

        sentence(TERMS, "the PARENT is, the PLACE is 0 to how many CHILDREN it has");
        grown(0, "a1(b2)");
        grown(1, "a1(c3,b2)");
        due("difference(0, 1)", 0);
        lookEdits(0, "G3:c1.0");
        fits(2, "a1", "a1(c3)");
        fits(3, "a1(b2,d4)", "a1(c3,b2,d4)");
        misfits(4, "a2");
        misfits(5, "a2(b4)");

        sentence(TERMS, "and there are less than 80 NODES");
        grownSixty();
        due("put(0, 41, 1, 58)", 1);
        due("apply(1, 0)", 60);
        grown(1, "a1(c41)");
        grown(2, "a1");
        due("difference(2, 1)", 2);
        due("invert(2)", 3);
        due("rebase(3, 0)", 4);
        lookEdits(4, "T41:c1.58");
        due("apply(4, 0)", 59);
        due("sticks(2, 0)", -1);
        due("apply(2, 0)", 60);
        refused("apply(2, 0)", -6);
    }

    private static void fitsOfMove() {
        sentence(TERMS, "MOVE: the KEY is there with that PARENT and PLACE, to is there, isn't it and isn't below it");
        grown(0, "a1(b2,c3,d4(e5))");
        due("put(0, 3, 5, 0)", 0);
        lookEdits(0, "M3:1.1>5.0");
        fits(1, "a1(b2,x3(f6),d4,e5)", "a1(b2,d4,e5(x3(f6)))");
        misfits(2, "a1(b2,c4,d5)");
        misfits(3, "a1(c3,b2,e5)");
        misfits(4, "a1(b2,e5,c3)");
        misfits(5, "a2(b1(e5,d4),c3)");
        misfits(6, "a1(b2,c3)");
        misfits(7, "a1(b2,c3(e5))");
        misfits(8, "a1(b2,c3(d4(e5)))");
        misfits(9, "c3(e5)");
        refused("put(0, 4, 4, 0)", -6);
        refused("put(0, 4, 5, 0)", -6);
        refused("put(0, 1, 5, 0)", -6);

        sentence(TERMS, "at is 0 to how many CHILDREN to has without it");
        grown(0, "a1(b2(e5),c3,d4)");
        refused("put(0, 3, 1, -1)", -6);
        due("put(0, 3, 1, 0)", 0);
        due("put(0, 3, 1, 2)", 1);
        refused("put(0, 3, 1, 3)", -6);
        due("put(0, 3, 2, 1)", 2);
        refused("put(0, 3, 2, 2)", -6);
        due("put(0, 5, 1, 3)", 3);
        refused("put(0, 5, 1, 4)", -6);
        due("put(0, 3, 4, 0)", 4);
        refused("put(0, 3, 4, 1)", -6);
        refused("put(0, 3, 4, 2147483647)", -6);
        refused("put(0, 3, 4, -2147483648)", -6);
        grown(1, "a1(b2,c3)");
        due("sticks(1, 1)", 0);
        refused("apply(1, 1)", -6);
        due("sticks(2, 1)", 0);
        refused("apply(2, 1)", -6);
        due("apply(0, 1)", 3);
    }

    // ---- PATCHES

    /** PATCHES 1 to 9 of 1, 2, 4, .. 64, 96 and 120 NAMES of one KEY; PATCH 0 is without EDITS. */
    private static void grown120Edits() {
        grown(0, "a1");
        due("difference(0, 0)", 0);
        due("hand(1, 97, 0)", 1);
        for (int p = 2; p <= 7; p++) {
            due("behind(" + (p - 1) + ", " + (p - 1) + ")", p);
        }
        due("behind(7, 6)", 8);
        due("behind(8, 5)", 9);
        due("behind(9, 4)", 10);
        due("patchOf(9, 0)", 112);
        due("patchOf(10, 0)", 120);
    }

    private static void howManyEdits() {
        sentence(TERMS, "A PATCH is 0 to 120 EDITS in a row");
        grown120Edits();
        due("patchOf(0, 0)", 0);
        refused("edit(0, 0, 0)", -5);
        due("edit(10, 119, 1)", 1);
        refused("edit(10, 120, 1)", -5);
        refused("behind(10, 1)", -7);
        refused("behind(1, 10)", -7);
        refused("behind(7, 7)", -7);
        due("behind(10, 0)", 11);
        due("behind(0, 10)", 12);
        due("invert(11)", 13);
        due("patchOf(13, 0)", 120);
        due("apply(13, 0)", 1);
        due("apply(0, 0)", 1);
    }

    private static void howManyPatches() {
        sentence(TERMS, "PATCHES have numbers, from 0 on, 16 at most");
        grown(0, "a1(b2)");
        for (int p = 0; p < 16; p++) {
            due("hand(2, 98, 0)", p);
        }
        refused("difference(0, 0)", -7);
        refused("invert(0)", -7);
        refused("behind(0, 0)", -7);
        refused("squeeze(0)", -7);
        refused("rebase(0, 0)", -7);
        refused("hand(2, 98, 0)", -7);
        refused("put(0, 2, 1, 0)", -7);
        due("forget()", 15);
        due("put(0, 2, 1, 0)", 15);
        refused("put(0, 2, 1, 0)", -7);

        sentence(TERMS, "a STAMP: how many were ever made, with it");
        grown(0, "a1");
        due("hand(1, 98, 0)", 0);
        due("patchOf(0, 1)", 1);
        due("forget()", 0);
        refused("hand(1, 96, 0)", -6);
        due("far(0, 0)", 0);
        due("hand(1, 98, 0)", 0);
        due("patchOf(0, 1)", 2);
        for (int p = 1; p < 16; p++) {
            due("hand(1, 98, 0)", p);
            due("patchOf(" + p + ", 1)", p + 2);
        }
        refused("hand(1, 98, 0)", -7);
        due("forget()", 15);
        due("invert(0)", 15);
        due("patchOf(15, 1)", 18);
    }

    private static void appliedAndInverse() {
        sentence(TERMS, "each EDIT in turn, all or nothing");
        grown(0, "a1(b2,c3)");
        due("hand(2, 120, 0)", 0);
        due("hand(3, 120, 0)", 1);
        due("behind(0, 1)", 2);
        due("behind(2, 0)", 3);
        due("sticks(3, 0)", 2);
        refused("apply(3, 0)", -6);
        lookTree(0, "a1(b2,c3)");
        due("apply(2, 0)", 3);
        lookTree(0, "a1(x2,x3)");

        sentence(TERMS, "it FITS if each does then");
        grown(0, "a1");
        grown(1, "a1(b2(c3))");
        due("difference(0, 1)", 0);
        lookEdits(0, "G2:b1.0 G3:c2.0");
        due("sticks(0, 0)", -1);
        due("invert(0)", 1);
        due("behind(0, 1)", 2);
        due("sticks(2, 0)", -1);
        due("apply(2, 0)", 1);
        due("behind(1, 0)", 3);
        due("sticks(3, 0)", 0);
        due("behind(0, 0)", 4);
        due("sticks(4, 0)", 2);

        sentence(TERMS, "INVERSE: its EDITS from the last to the first, each turned: NAME with old and new, TAKE with GIVE, "
                + "MOVE with where from and where to exchanged");
        grown(0, "a1(b2,c3,d4)");
        grown(1, "a1(x2(d4),e5)");
        due("difference(0, 0)", 0);
        due("invert(0)", 1);
        lookEdits(1, "");
        due("difference(0, 1)", 2);
        lookEdits(2, "N2:b>x G5:e1.1 M4:1.3>2.0 T3:c1.2");
        due("invert(2)", 3);
        lookEdits(3, "G3:c1.2 M4:2.0>1.3 T5:e1.1 N2:x>b");
        due("invert(3)", 4);
        lookEdits(4, "N2:b>x G5:e1.1 M4:1.3>2.0 T3:c1.2");
        due("apply(2, 0)", 4);
        due("apply(3, 0)", 4);
        lookTree(0, "a1(b2,c3,d4)");
    }

    // ---- DIFFERENCE

    /** The DIFFERENCE of two new TREES as PATCH 0, APPLIED. */
    private static void differs(String from, String to, String edits) {
        grown(0, from);
        grown(1, to);
        due("difference(0, 1)", 0);
        lookEdits(0, edits);
        due("apply(0, 0)", to.replaceAll("[^a-z]", "").length());
        due("same(0, 1)", 0);
        due("forget()", 0);
        due("drop(1)", 1);
        due("drop(0)", 0);
    }

    private static void differenceFirstAndLast() {
        sentence(TERMS, "DIFFERENCE from a TREE T to U (ROOTS of the same KEY)");
        differs("a1", "a1", "");
        differs("a1", "b1", "N1:a>b");
        differs("a1(b2,c3(d4))", "a1(b2,c3(d4))", "");
        grown(0, "a1(b2)");
        grown(1, "a2(b1)");
        refused("difference(0, 1)", -6);
        refused("far(0, 1)", -6);
        refused("moves(0, 1)", -6);

        sentence(TERMS, "First, by ORDER of T, each NODE that is in U with another LABEL: NAME");
        differs("a1(b3,c2)", "x1(x2,x3)", "N1:a>x N3:b>x N2:c>x M2:1.1>1.0");
        differs("a1(b2)", "a1(x3)", "G3:x1.0 T2:b1.1");
        differs("a1(b2)", "a1(b2,b3)", "G3:b1.1");

        sentence(TERMS, "Each CHILD c of p in U, by PLACES, that isn't STAYING goes right behind the one ahead of it in U "
                + "(to PLACE 0, if it is the first): MOVE, if it is in T, else GIVE");
        differs("a1", "a1(b2,b3,b4)", "G2:b1.0 G3:b1.1 G4:b1.2");
        differs("a1(b4)", "a1(b2,b4,b3)", "G2:b1.0 G3:b1.2");
        differs("a1(b2(b3,b4))", "a1(b3,b4,b2)", "M3:2.0>1.0 M4:2.0>1.1");
        differs("a1(b2(b3,b4))", "a1(b2,b4,b3)", "M4:2.1>1.1 M3:2.0>1.2");
        differs("a1(b9,b2,b3)", "a1(b2,b4,b3)", "G4:b1.2 T9:b1.0");

        sentence(TERMS, "Last, by ORDER of T from the end, each NODE that isn't in U: TAKE");
        differs("a1(b2,b3,b4)", "a1", "T4:b1.2 T3:b1.1 T2:b1.0");
        differs("a1(b2(b3(b4)))", "a1", "T4:b3.0 T3:b2.0 T2:b1.0");
        differs("a1(b2(b3,b4))", "a1(b4)", "M4:2.1>1.0 T3:b2.0 T2:b1.1");
    }

    private static void differenceStaying() {
        sentence(TERMS, "STAYING are those of its CHILDREN in U that are CHILDREN of p in W");
        differs("a1(b2(b3),b4)", "a1(b3,b4,b2)", "M3:2.0>1.0 M4:1.2>1.1");
        differs("a1(b2,b3)", "a1(b3(b2))", "M2:1.0>3.0");
        differs("a1(b2(b3(b4)))", "a1(b4(b3(b2)))", "M4:3.0>1.0 M3:2.0>4.0 M2:1.1>3.0");

        sentence(TERMS, "that stand in the same order in both, as many as can be");
        differs("a1(b5,b2,b3,b4)", "a1(b2,b3,b4,b5)", "M5:1.0>1.3");
        differs("a1(b2,b3,b4,b5)", "a1(b5,b2,b3,b4)", "M5:1.3>1.0");
        differs("a1(b6,b2,b5,b3,b4)", "a1(b2,b3,b4,b5,b6)", "M5:1.2>1.4 M6:1.0>1.4");
        differs("a1(b2,b3,b4,b5)", "a1(b2,b3,b4,b5)", "");
        differs("a1(b2,b3)", "a1(b3,b2)", "M3:1.1>1.0");

        sentence(TERMS, "for each NODE p of it: STAYING are those of its CHILDREN in U");
        differs("a1(b2(b5,b6,b7),b3(b8,b9),b4)", "a1(b2(b5,b6,b7),b3(b9,b8),b4)", "M9:3.1>3.0");
        differs("a1(b2(b5,b6,b7),b3(b9,b8,b10))", "a1(b2(b5,b6,b7),b3(b8,b9,b10))", "M8:3.1>3.0");
        differs("a1(b2(b5,b6,b7),b3,b4)", "a1(b2(b7,b6,b5),b3,b4)", "M7:2.2>2.0 M6:2.2>2.1");
        differs("a1(b2(b5,b6),b3(b7,b8))", "a1(b3(b7,b5,b8),b2(b6))", "M3:1.1>1.0 M5:2.0>3.1");

        sentence(TERMS, "of several such rows that is taken whose first one stands first in W");
        differs("a1(b2,b3,b4)", "a1(b4,b3,b2)", "M4:1.2>1.0 M3:1.2>1.1");
        differs("a1(b2,b3,b4,b5)", "a1(b4,b5,b2,b3)", "M4:1.2>1.0 M5:1.3>1.1");
        differs("a1(b4,b5,b2,b3)", "a1(b2,b3,b4,b5)", "M2:1.2>1.0 M3:1.3>1.1");

        sentence(TERMS, "of those whose second one does, and so on");
        differs("a1(b2,b3,b4,b5)", "a1(b2,b4,b3,b5)", "M4:1.2>1.1");
        differs("a1(b2,b4,b3,b5)", "a1(b2,b3,b4,b5)", "M3:1.2>1.1");
        differs("a1(b2,b3,b4,b5)", "a1(b2,b3,b5,b4)", "M5:1.3>1.2");
        differs("a1(b2,b3,b4,b5,b6)", "a1(b2,b3,b6,b5,b4)", "M6:1.4>1.2 M5:1.4>1.3");
    }

    private static void differencePlaces() {
        sentence(TERMS, "goes right behind the one ahead of it in U (to PLACE 0, if it is the first)");
        differs("a1(b2,b3,b4)", "a1(b3,b4,b2)", "M2:1.0>1.2");
        differs("a1(b2,b3,b4,b5)", "a1(b3,b2,b4,b5)", "M3:1.1>1.0");
        differs("a1(b2,b3(b4))", "a1(b4,b2,b3)", "M4:3.0>1.0");
        differs("a1(b2,b3(b4))", "a1(b2,b4,b3)", "M4:3.0>1.1");
        differs("a1(b2(b4),b3)", "a1(b2,b4,b3)", "M4:2.0>1.1");
        differs("a1(b9,b2)", "a1(b3,b2)", "G3:b1.0 T9:b1.1");
        differs("a1(b9,b8)", "a1(b3)", "G3:b1.0 T8:b1.2 T9:b1.1");

        sentence(TERMS, "each EDIT is APPLIED to W as it comes (W may have any number of NODES)");
        StringBuilder text = new StringBuilder("a1(");
        for (int key = 41; key <= 60; key++) {
            text.append(key == 41 ? "c" : ",c").append(key);
        }
        grown(0, wide(40));
        grown(1, text.append(')').toString());
        due("far(0, 1)", 59);
        due("moves(0, 1)", 0);
        due("difference(0, 1)", 0);
        due("patchOf(0, 3)", 39);
        due("patchOf(0, 4)", 20);
        due("edit(0, 19, 4)", 19);
        due("edit(0, 20, 1)", 40);
        due("edit(0, 20, 4)", 58);
        due("apply(0, 0)", 21);
        due("same(0, 1)", 0);
    }

    /** Two TREES of all 60 KEYS, no NODE of the same LABEL in both, none but the ROOT below the same NODE. */
    private static void differenceAtItsLargest() {
        sentence(TERMS, "DIFFERENCE from a TREE T to U");
        StringBuilder text = new StringBuilder("a1(b2(");
        for (int key = 41; key <= 60; key++) {
            text.append(key == 41 ? "c" : ",c").append(key);
        }
        String twenty = text.append("))").toString();
        String forty = wide(40).replace("b2,", "b2(") + ")";
        write(5, "a1(b2)");
        write(6, twenty);
        due("tree(5)", 0);
        due("tree(6)", 1);
        due("difference(0, 1)", 0);
        due("drop(1)", 1);
        due("drop(0)", 0);
        due("set(5, 4, 51)", 1);
        due("set(6, 4, 51)", 1);
        relabel(5, "a1(b3)", 'x');
        relabel(6, twenty, 'x');
        due("tree(5)", 0);
        due("tree(6)", 1);
        due("difference(0, 1)", 1);
        due("drop(1)", 1);
        due("drop(0)", 0);
        grown(0, forty);
        due("apply(0, 0)", 60);
        due("set(7, 4, 51)", 1);
        due("set(7, 7, 50)", 1);
        relabel(7, forty, 'y');
        due("tree(7)", 1);
        due("apply(1, 1)", 60);
        due("far(0, 1)", 119);
        due("moves(0, 1)", 59);
        due("difference(0, 1)", 2);
        due("patchOf(2, 2)", 60);
        due("patchOf(2, 5)", 59);
        due("apply(2, 0)", 60);
        due("same(0, 1)", 0);
        due("hand(1, 122, 0)", 3);
        due("behind(2, 3)", 4);
        due("patchOf(4, 0)", 120);
        refused("behind(4, 3)", -7);
        due("invert(2)", 5);
        due("rebase(2, 0)", 6);
        due("patchOf(6, 0)", 0);
        lookConflicts(6, "");
    }

    private static void relabel(int s, String text, char label) {
        for (int i = 0; i < text.length(); i++) {
            if (Character.isLetter(text.charAt(i))) {
                due("set(" + s + ", " + i + ", " + (int) label + ")", 1);
            }
        }
    }

    // ---- SQUEEZED

    private static void squeezedNeighbours() {
        sentence(TERMS, "two neighbours that undo each other (the second is the first turned)");
        grown(0, "a1(b2,c3)");
        due("difference(0, 0)", 0);
        due("squeeze(0)", 1);
        lookEdits(1, "");
        due("put(0, 3, 2, 0)", 2);
        due("squeeze(2)", 3);
        lookEdits(3, "M3:1.1>2.0");
        due("invert(2)", 4);
        due("behind(2, 4)", 5);
        due("squeeze(5)", 6);
        lookEdits(6, "");
        due("behind(2, 2)", 7);
        due("squeeze(7)", 8);
        lookEdits(8, "M3:1.1>2.0 M3:1.1>2.0");
        due("put(0, 2, 3, 0)", 9);
        due("behind(9, 4)", 10);
        due("squeeze(10)", 11);
        lookEdits(11, "M2:1.0>3.0 M3:2.0>1.1");
        due("behind(2, 9)", 12);
        due("behind(12, 4)", 13);
        due("squeeze(13)", 14);
        lookEdits(14, "M3:1.1>2.0 M2:1.0>3.0 M3:2.0>1.1");

        notTurned();

        sentence(TERMS, "SQUEEZED: as long as there are two neighbours that undo each other");
        grown(0, "a1(b2,c3)");
        grown(1, "a1(c3(d4,x2))");
        due("difference(0, 1)", 0);
        lookEdits(0, "N2:b>x G4:d3.0 M2:1.0>3.1");
        due("invert(0)", 1);
        due("behind(0, 1)", 2);
        due("squeeze(2)", 3);
        lookEdits(3, "");
        due("behind(2, 0)", 4);
        due("behind(4, 1)", 5);
        due("behind(5, 0)", 6);
        due("squeeze(6)", 7);
        lookEdits(7, "N2:b>x G4:d3.0 M2:1.0>3.1");

        sentence(TERMS, "the first such two (by place) vanish, or become one NAME");
        grown(0, "a1");
        grown(1, "b1");
        grown(2, "c1");
        due("difference(0, 1)", 0);
        due("difference(1, 0)", 1);
        due("difference(2, 0)", 2);
        due("hand(1, 100, 2)", 3);
        due("behind(0, 1)", 4);
        due("behind(4, 3)", 5);
        lookEdits(5, "N1:a>b N1:b>a N1:c>d");
        due("squeeze(5)", 6);
        lookEdits(6, "N1:c>d");
    }

    /** Two EDITS, the DIFFERENCES of four TREES, that are each other turned but for one number. */
    private static void staysAsItIs(String from, String to, String next, String last, String edits) {
        grown(0, from);
        grown(1, to);
        grown(2, next);
        grown(3, last);
        due("difference(0, 1)", 0);
        due("difference(2, 3)", 1);
        due("behind(0, 1)", 2);
        lookEdits(2, edits);
        due("squeeze(2)", 3);
        lookEdits(3, edits);
        for (int left = 3; left >= 0; left--) {
            due("forget()", left);
            due("drop(" + left + ")", left);
        }
    }

    private static void notTurned() {
        sentence(TERMS, "two neighbours that undo each other (the second is the first turned)");
        staysAsItIs("a1", "a1(b2)", "a1(b3)", "a1", "G2:b1.0 T3:b1.0");
        staysAsItIs("a1", "a1(b2)", "a1(c2)", "a1", "G2:b1.0 T2:c1.0");
        staysAsItIs("a1", "a1(b2)", "a3(b2)", "a3", "G2:b1.0 T2:b3.0");
        staysAsItIs("a1", "a1(b2)", "a1(c3,b2)", "a1(c3)", "G2:b1.0 T2:b1.1");
        staysAsItIs("a1(b2)", "a1", "a1(c3)", "a1(c3,b2)", "T2:b1.0 G2:b1.1");
        staysAsItIs("a1", "a1(b2)", "a1(b2)", "a1(c2)", "G2:b1.0 N2:b>c");

        sentence(TERMS, "two neighbours that undo each other (the second is the first turned)");
        staysAsItIs("a1(b2,c3)", "a1(b2(c3))", "a1(b2(c4))", "a1(b2,c4)", "M3:1.1>2.0 M4:2.0>1.1");
        staysAsItIs("a1(b2,c3)", "a1(b2(c3))", "a1(b2,d4(c3))", "a1(b2,c3,d4)", "M3:1.1>2.0 M3:4.0>1.1");
        staysAsItIs("a1(b2,c3)", "a1(b2(c3))", "a1(b2(d4,c3))", "a1(b2(d4),c3)", "M3:1.1>2.0 M3:2.1>1.1");
        staysAsItIs("a1(b2,c3)", "a1(b2(c3))", "a5(b4(d6),b2(c3))", "a5(b4(d6,c3),b2)", "M3:1.1>2.0 M3:2.0>4.1");
        staysAsItIs("a1(b2,c3)", "a1(b2(c3))", "a1(b2(c3),d4)", "a1(b2,d4,c3)", "M3:1.1>2.0 M3:2.0>1.2");
    }

    private static void squeezedNames() {
        sentence(TERMS, "or two NAMES of one KEY");
        grown(0, "a1(b2)");
        due("hand(1, 120, 0)", 0);
        due("squeeze(0)", 1);
        lookEdits(1, "N1:a>x");
        due("hand(1, 121, 0)", 2);
        due("behind(0, 2)", 3);
        due("squeeze(3)", 4);
        lookEdits(4, "N1:a>y");
        due("hand(2, 122, 0)", 5);
        due("behind(0, 5)", 6);
        due("squeeze(6)", 7);
        lookEdits(7, "N1:a>x N2:b>z");
        due("behind(3, 5)", 8);
        due("behind(8, 5)", 9);
        due("behind(9, 0)", 10);
        due("squeeze(10)", 11);
        lookEdits(11, "N1:a>y N2:b>z N1:a>x");

        sentence(TERMS, "or two NAMES of one KEY");
        staysAsItIs("a1(b2)", "a1(c2)", "a1(c2)", "a1", "N2:b>c T2:c1.0");
        staysAsItIs("a1(b2)", "a1", "a1(b2)", "a1(c2)", "T2:b1.0 N2:b>c");
        staysAsItIs("a1(b2)", "a1(c2)", "a1(b3)", "a1(c3)", "N2:b>c N3:b>c");
        staysAsItIs("a1(b2)", "a1(c2)", "a1(c3)", "a1(b3)", "N2:b>c N3:c>b");

        sentence(TERMS, "(that vanishes, too, if old and new are the same)");
        grown(0, "a1(b2)");
        due("hand(1, 97, 0)", 0);
        lookEdits(0, "N1:a>a");
        due("squeeze(0)", 1);
        lookEdits(1, "N1:a>a");
        due("behind(0, 0)", 2);
        due("squeeze(2)", 3);
        lookEdits(3, "");
        due("hand(1, 120, 0)", 4);
        due("behind(4, 0)", 5);
        lookEdits(5, "N1:a>x N1:a>a");
        due("squeeze(5)", 6);
        lookEdits(6, "");
        due("hand(2, 120, 0)", 7);
        due("behind(7, 5)", 8);
        due("hand(2, 98, 0)", 9);
        due("behind(8, 9)", 10);
        lookEdits(10, "N2:b>x N1:a>x N1:a>a N2:b>b");
        due("squeeze(10)", 11);
        lookEdits(11, "");
    }

    // ---- REBASED

    /** PATCH 0 over a new TREE: the EDITS kept and the CONFLICTS; the TREE stays. */
    private static void rebased(String text, String edits, String conflicts) {
        int t = 2;
        grown(t, text);
        due("rebase(0, 2)", 1);
        lookEdits(1, edits);
        lookConflicts(1, conflicts);
        lookTree(t, text);
        due("sticks(1, 2)", -1);
        due("forget()", 1);
        due("drop(2)", 2);
    }

    /** PATCH 0 is the DIFFERENCE of TREES 0 and 1. */
    private static void toRebase(String from, String to, String edits) {
        grown(0, from);
        grown(1, to);
        due("difference(0, 1)", 0);
        lookEdits(0, edits);
    }

    private static void rebasedNameAndTake() {
        sentence(TERMS, "NAME: no such KEY: CONFLICT 1");
        toRebase("a1(b2)", "a1(x2)", "N2:b>x");
        rebased("a1(b3)", "", "0:1");
        rebased("b2", "N2:b>x", "");

        sentence(TERMS, "It has LABEL new: left out. It hasn't old: CONFLICT 2");
        toRebase("a1(b2)", "a1(x2)", "N2:b>x");
        rebased("a1(x2)", "", "");
        rebased("a1(c2)", "", "0:2");
        rebased("a1(b2)", "N2:b>x", "");
        due("forget()", 0);
        due("hand(2, 98, 0)", 0);
        lookEdits(0, "N2:b>b");
        rebased("a1(b2)", "", "");
        rebased("a1(c2)", "", "0:2");

        sentence(TERMS, "TAKE: no such KEY: left out. It has CHILDREN, or is the ROOT: CONFLICT 3. Another LABEL: CONFLICT 2");
        toRebase("a1(b2)", "a1", "T2:b1.0");
        rebased("a1", "", "");
        rebased("a1(b2(c3))", "", "0:3");
        rebased("a1(c2(c3))", "", "0:3");
        rebased("b2", "", "0:3");
        rebased("c2", "", "0:3");
        rebased("a1(c2)", "", "0:2");

        sentence(TERMS, "Else TAKE from its PARENT and PLACE in W");
        toRebase("a1(b2)", "a1", "T2:b1.0");
        rebased("a1(b2)", "T2:b1.0", "");
        rebased("a1(c3,d4,b2)", "T2:b1.2", "");
        rebased("a1(c3(e5,b2),d4)", "T2:b3.1", "");
        rebased("a7(b2)", "T2:b7.0", "");
    }

    private static void rebasedGive() {
        sentence(TERMS, "GIVE: the KEY is there: left out, if it has that LABEL and that PARENT, else CONFLICT 4");
        toRebase("a1(c3)", "a1(c3(b2))", "G2:b3.0");
        rebased("a1(c3(b2))", "", "");
        rebased("a1(c3(d4,b2(e5)))", "", "");
        rebased("a1(c3(x2))", "", "0:4");
        rebased("a1(c3,b2)", "", "0:4");
        rebased("b2(c3)", "", "0:4");
        rebased("b2", "", "0:4");

        sentence(TERMS, "No such PARENT: CONFLICT 1. 80 NODES: CONFLICT 7");
        toRebase("a1(c3)", "a1(c3(b2))", "G2:b3.0");
        rebased("a1(c4)", "", "0:1");
        rebased("a1(x3)", "G2:b3.0", "");

        sentence(TERMS, "Else GIVE at its place, or behind the last, if that is beyond");
        toRebase("a1(c3,d4)", "a1(c3,d4,b2)", "G2:b1.2");
        rebased("a1", "G2:b1.0", "");
        rebased("a1(e5)", "G2:b1.1", "");
        rebased("a1(e5(c3,d4),d6)", "G2:b1.2", "");
        rebased("a1(e5,d6,f7)", "G2:b1.2", "");
    }

    private static void rebasedMove() {
        sentence(TERMS, "MOVE: no such KEY or to: CONFLICT 1. to is it or below it, or it is the ROOT: CONFLICT 5");
        toRebase("a1(b2(c3),d4)", "a1(b2,d4(c3))", "M3:2.0>4.0");
        rebased("a1(b2,d4)", "", "0:1");
        rebased("a1(b2(c3))", "", "0:1");
        rebased("c3(b2)", "", "0:1");
        rebased("a1(b2(c3(d4)))", "", "0:5");
        rebased("a1(b2(c3(e5(d4))))", "", "0:5");
        rebased("a1(c3(d4))", "", "0:5");
        rebased("c3(b2,d4)", "", "0:5");
        rebased("d4(b2(c3))", "M3:2.0>4.0", "");

        sentence(TERMS, "Its PARENT in W isn't parent: left out, if it is to, else CONFLICT 6");
        toRebase("a1(b2(c3),d4)", "a1(b2,d4(c3))", "M3:2.0>4.0");
        rebased("a1(b2,d4(c3))", "", "");
        rebased("a1(d4(e5,c3))", "", "");
        rebased("a1(b2,c3,d4)", "", "0:6");
        rebased("a1(b2,d4(e5(c3)))", "", "0:6");

        sentence(TERMS, "Else MOVE from its PLACE in W to at, or behind the last, if that is beyond (counted without it)");
        toRebase("a1(b2(c3),d4(e5,f6))", "a1(b2,d4(e5,f6,c3))", "M3:2.0>4.2");
        rebased("a1(b2(g7,c3),d4(e5,f6,h8))", "M3:2.1>4.2", "");
        rebased("a1(b2(c3),d4(e5,f6))", "M3:2.0>4.2", "");
        rebased("a1(b2(c3),d4(e5))", "M3:2.0>4.1", "");
        rebased("a1(b2(c3),d4)", "M3:2.0>4.0", "");
        due("forget()", 0);
        due("put(0, 2, 1, 1)", 0);
        lookEdits(0, "M2:1.0>1.1");
        rebased("a1(g7,b2)", "M2:1.1>1.1", "");
        rebased("a1(b2,g7)", "M2:1.0>1.1", "");
        rebased("a1(b2)", "M2:1.0>1.0", "");
    }

    private static void rebasedAsAWhole() {
        sentence(TERMS, "EDIT by EDIT, each is as it is, changed, left out, or a CONFLICT (and left out); what is kept is APPLIED to W");
        toRebase("a1", "a1(b2(c3))", "G2:b1.0 G3:c2.0");
        rebased("a1(d4)", "G2:b1.0 G3:c2.0", "");
        rebased("a1(b2)", "G3:c2.0", "");
        rebased("a1(x2)", "G3:c2.0", "0:4");
        rebased("a5", "", "0:1 1:1");
        rebased("a1(b2(c3))", "", "");
        rebased("a1(c3)", "G2:b1.0", "1:4");
        due("forget()", 0);
        due("difference(0, 0)", 0);
        rebased("a9", "", "");
    }

    // ---- what comes of it

    private static void aboveFarWrong() {
        sentence(TERMS, "ABOVE of two KEYS: the lowest NODE that is, or has below it, both");
        grown(0, "a1(b2(c3(d4),e5),f6)");
        due("above(0, 1, 1)", 1);
        due("above(0, 4, 4)", 4);
        due("above(0, 3, 4)", 3);
        due("above(0, 4, 3)", 3);
        due("above(0, 4, 5)", 2);
        due("above(0, 5, 4)", 2);
        due("above(0, 4, 6)", 1);
        due("above(0, 6, 1)", 1);

        sentence(TERMS, "FAR of T and U: how many EDITS the DIFFERENCE has");
        grown(0, "a1(b2,c3)");
        grown(1, "x1(c3,b2,d4)");
        due("far(0, 0)", 0);
        due("far(0, 1)", 3);
        due("far(1, 0)", 3);
        due("status(1)", 0);

        sentence(TERMS, "WRONG: the first at which ORDER has another KEY, or none; how many are told, if ORDER has more; NONE");
        grown(0, "a1(b2,c3)");
        due("row(0, 2, 5)", 1);
        due("judge(0, 0, 0)", 0);
        due("judge(0, 0, 1)", 0);
        for (int i = 0; i < 5; i++) {
            due("set(0, " + i + ", " + (i + 1) + ")", 1);
        }
        due("judge(0, 0, 0)", 0);
        due("judge(0, 0, 1)", 1);
        due("judge(0, 0, 2)", 2);
        due("judge(0, 0, 3)", -1);
        due("judge(0, 0, 4)", 3);
        due("judge(0, 0, 5)", 3);
        due("set(0, 2, 4)", 1);
        due("judge(0, 0, 3)", 2);
        due("judge(0, 0, 5)", 2);
        due("judge(0, 0, 2)", 2);
        due("set(0, 0, 2)", 1);
        due("judge(0, 0, 3)", 0);
    }

    // ---- DAYS

    private static int next(int seed) {
        return seed * 1103515245 + 12345;
    }

    private static int after(int seed, int draws) {
        int s = seed;
        for (int i = 0; i < draws; i++) {
            s = next(s);
        }
        return s;
    }

    /** A SEED by which the next DRAWS are these: a bound and what is drawn, and so on. */
    private static int seedOf(int... draws) {
        for (int seed = 0; seed < 100_000_000; seed++) {
            int s = seed;
            boolean good = true;
            for (int i = 0; i < draws.length && good; i += 2) {
                s = next(s);
                good = (s >>> 16) % draws[i] == draws[i + 1];
            }
            if (good) {
                return seed;
            }
        }
        throw new IllegalStateException("no such SEED");
    }

    /** A day of these DRAWS, and of no other ones, on a TREE. */
    private static void day(int t, String then, int... draws) {
        int seed = seedOf(draws);
        call("seed(" + seed + ")");
        due("days(" + t + ", 1)", then.replaceAll("[^a-z]", "").length());
        lookTree(t, then);
        look("status(5)", after(seed, draws.length / 2));
    }

    private static void daysNotThere() {
        sentence(TERMS, "KEY k a DRAW below 60, and 1");
        grown(0, "a7");
        day(0, "a7(c1)", 60, 0, 26, 2, 1, 0);
        day(0, "a7(d60,c1)", 60, 59, 26, 3, 2, 0);

        sentence(TERMS, "not there: GIVE it, LABEL a DRAW below 26 behind a, to the NODE of ORDER a DRAW below how many NODES, "
                + "at PLACE 0");
        grown(0, "b7");
        day(0, "b7(a2)", 60, 1, 26, 0, 1, 0);
        day(0, "b7(a2(z3))", 60, 2, 26, 25, 2, 1);
        day(0, "b7(c4,a2(z3))", 60, 3, 26, 2, 3, 0);
        day(0, "b7(c4,a2(z3(d5)))", 60, 4, 26, 3, 4, 3);
        day(0, "b7(c4,a2(e6,z3(d5)))", 60, 5, 26, 4, 5, 2);

        sentence(TERMS, "if there are less than 40");
        String text = wide(39);
        String forty = text.substring(0, text.length() - 1) + "(f50))";
        grown(0, text);
        day(0, forty, 60, 49, 26, 5, 39, 38);
        day(0, forty, 60, 50);
        grown(1, "b1");
        grown(2, "b1(d60)");
        due("difference(1, 2)", 0);
        due("apply(0, 0)", 41);
        String more = forty.replace("a1(", "a1(d60,");
        day(0, more, 60, 50);
        day(0, more.replace("f50", "g50"), 60, 49, 2, 1, 26, 6);
        day(0, more.replace("(f50)", ""), 60, 49, 2, 0);
        day(0, more.replace("(f50)", ""), 60, 49);
    }

    private static void daysThere() {
        sentence(TERMS, "there: if it has no CHILDREN and isn't the ROOT, and a DRAW below 2 is 0, TAKE");
        grown(0, "a7(b2(c3),d4)");
        day(0, "a7(b2,d4)", 60, 2, 2, 0);
        day(0, "a7(b2)", 60, 3, 2, 0);
        day(0, "a7", 60, 1, 2, 0);

        sentence(TERMS, "else NAME to a DRAW below 26 behind a");
        grown(0, "b7(b2(c3),d4)");
        day(0, "b7(b2(a3),d4)", 60, 2, 2, 1, 26, 0);
        day(0, "b7(b2(z3),d4)", 60, 2, 2, 1, 26, 25);
        day(0, "b7(z2(z3),d4)", 60, 1, 26, 25);
        day(0, "b7(a2(z3),d4)", 60, 1, 26, 0);
        day(0, "a7(a2(z3),d4)", 60, 6, 26, 0);
        day(0, "z7(a2(z3),d4)", 60, 6, 26, 25);
        grown(1, "b7");
        day(1, "a7", 60, 6, 26, 0);

        sentence(TERMS, "DAYS by draws on a TREE, n times");
        grown(0, "a1");
        grown(1, "a1");
        long nodes = call("days(0, 60)");
        long seed = call("seed(1)");
        for (int day = 1; day < 60; day++) {
            call("days(1, 1)");
        }
        due("days(1, 1)", nodes);
        due("same(0, 1)", 0);
        due("status(5)", seed);
    }

    private static void draws() {
        sentence(TERMS, "SEED (1 at first) becomes SEED times 1103515245, and 12345 (an int, wrapping)");
        grown(0, "a1");
        due("status(5)", 1);
        call("days(0, 1)");
        due("status(5)", after(1, 3));
        int[] seeds = {Integer.MAX_VALUE, Integer.MIN_VALUE, -1, 0, 0x7fff_0000};
        for (int seed : seeds) {
            int before = 0;
            call("drop(0)");
            grown(0, "a1");
            call("seed(" + seed + ")");
            int key = (next(seed) >>> 16) % 60 + 1;
            before = key == 1 ? 2 : 3;
            call("days(0, 1)");
            due("status(5)", after(seed, before));
            due("find(0, " + key + ")", key == 1 ? 0 : 1);
        }

        sentence(TERMS, "its upper 16 bits, no sign, modulo n");
        grown(0, "a1");
        int seed = 1;
        while (next(seed) >= 0 || (next(seed) >>> 16) % 60 == 0 || next(next(seed)) >= 0) {
            seed++;
        }
        call("seed(" + seed + ")");
        due("days(0, 1)", 2);
        due("node(0, 1, 0)", (next(seed) >>> 16) % 60 + 1);
        due("node(0, 1, 1)", 'a' + (next(next(seed)) >>> 16) % 26);
    }

    // ---- SHELVES and ROWS

    private static void shelvesAndRows() {
        sentence(TERMS, "SHELVES 0 to 7 hold NOTHING (at first), a ROW, or one of the PATCHES");
        for (int s = -1; s <= 8; s++) {
            due("holds(" + s + ")", -1);
        }
        due("status(6)", 0);
        for (int s = 0; s < 8; s++) {
            due("row(" + s + ", 0, 1)", 1);
        }
        refused("row(8, 0, 1)", -1);
        refused("row(-1, 0, 1)", -1);
        due("status(6)", 8);
        for (int s = 0; s < 8; s++) {
            due("show(" + s + ", -1)", 0);
        }
        due("status(6)", 0);

        sentence(TERMS, "A ROW has a SORT (0 bytes, 1 shorts, 2 ints, 3 longs) and 0 to 160 elements, 0 at first");
        for (int sort = 0; sort <= 3; sort++) {
            due("row(" + sort + ", " + sort + ", 0)", 1);
            due("holds(" + sort + ")", 100 + sort);
            refused("set(" + sort + ", 0, 1)", -5);
            due("element(" + sort + ", 0)", 0);
            due("row(" + sort + ", " + sort + ", 160)", 1);
            due("element(" + sort + ", 0)", 0);
            due("set(" + sort + ", 159, 5)", 1);
            due("element(" + sort + ", 159)", 5);
            refused("set(" + sort + ", 160, 1)", -5);
            due("row(" + sort + ", " + sort + ", 160)", 1);
            due("element(" + sort + ", 159)", 0);
        }
        refused("row(0, 4, 1)", -6);
        refused("row(0, -1, 1)", -6);
        refused("row(0, 0, 161)", -7);
        refused("row(0, 0, -1)", -4);

        sentence(TERMS, "what is put in keeps its lowest bits");
        long[] numbers = {127, 128, 255, 256, -128, -129, 32767, 32768, 65535, 65536, -32768, -32769, 2147483647L,
            2147483648L, 4294967295L, 4294967296L, -2147483648L, -2147483649L, Long.MAX_VALUE, Long.MIN_VALUE};
        for (int sort = 0; sort <= 3; sort++) {
            due("row(" + sort + ", " + sort + ", 1)", 1);
            for (long number : numbers) {
                due("set(" + sort + ", 0, " + number + ")", 1);
                due("element(" + sort + ", 0)",
                        sort == 0 ? (byte) number : sort == 1 ? (short) number : sort == 2 ? (int) number : number);
            }
        }
        for (int sort = 0; sort <= 3; sort++) {
            due("set(" + sort + ", 0, -1)", 1);
            due("element(" + sort + ", 0)", -1);
        }

        sentence(TERMS, "All is read as ints (of longs the lowest 32 bits; element() gives the long)");
        for (int sort = 0; sort <= 3; sort++) {
            int bits = Math.min(32, 8 << sort);
            due("row(0, " + sort + ", 2)", 1);
            due("set(0, 0, " + (97 + (1L << bits)) + ")", 1);
            due("set(0, 1, " + (49 - (1L << bits)) + ")", 1);
            due("tree(0)", sort);
            due("set(0, 0, " + (1 + (1L << bits)) + ")", 1);
            due("judge(0, " + sort + ", 1)", -1);
            due("element(0, 0)", sort == 3 ? 1 + (1L << 32) : 1);
            if (sort > 0) {
                due("set(0, 0, " + (97 + (1L << bits - 1)) + ")", 1);
                refused("tree(0)", -6);
                due("fault()", 0);
            }
        }
    }

    // ---- REFUSALS

    /** TREES, PATCHES of all sorts, ROWS, an IMAGE that is not how things stand. */
    private static void grownRich() {
        grown(0, "a1(b2(c3),d4)");
        grown(1, "a1(c3,x4)");
        grown(2, "b2");
        due("difference(0, 1)", 0);
        due("rebase(0, 2)", 1);
        due("image()", 3);
        due("squeeze(0)", 2);
        due("put(0, 3, 4, 0)", 3);
        call("days(1, 9)");
        due("drop(2)", 2);
        due("show(0, 1)", 1);
        due("show(1, 3)", 1);
        due("row(2, 3, 4)", 1);
        due("set(2, 1, 4)", 1);
        faulty("a1(", 3);
    }

    private static void whatTheNumbersMean() {
        sentence(TERMS, "-1 NOBODY: no such SHELF, TREE, PATCH.");
        grownRich();
        String[] none = {"-2147483648", "-1", "8", "2147483647"};
        for (String number : none) {
            refused("tree(" + number + ")", -1);
            refused("nodes(" + number + ")", -1);
            refused("touched(" + number + ", 0)", -1);
        }

        sentence(TERMS, "-2 OTHER: a SHELF that holds a PATCH where a ROW is wanted, or the other way about, ROWS of two SORTS, "
                + "a PATCH that isn't of the sort wanted.");
        grownRich();
        refused("tree(0)", -2);
        refused("set(1, 0, 0)", -2);
        refused("says(2, 0)", -2);
        refused("copy(2, 7, 0, 0, 1)", -2);
        refused("says(0, 1)", -2);
        refused("says(1, 2)", -2);
        refused("judge(0, 0, 1)", -12);

        sentence(TERMS, "-3 NOTHING: a SHELF that holds NOTHING.");
        grownRich();
        refused("tree(3)", -3);
        refused("set(3, 0, 0)", -3);
        refused("says(3, 0)", -3);
        refused("copy(3, 3, 0, 0, 1)", -3);
        refused("judge(3, 0, 1)", -13);
        due("show(0, -1)", 0);
        refused("tree(0)", -3);
        refused("says(0, 0)", -3);

        sentence(TERMS, "-4 BELOW: a size below 0.");
        grownRich();
        refused("row(2, 0, -1)", -4);
        refused("copy(2, 2, 0, 0, -1)", -4);
        refused("judge(2, 0, -1)", -14);
        due("copy(2, 2, 0, 0, 0)", 1);
        due("judge(2, 0, 0)", 0);
        due("row(2, 0, 0)", 1);

        sentence(TERMS, "-5 BEYOND: an element that isn't there; nothing such to be told of.");
        grownRich();
        refused("set(2, 4, 0)", -5);
        refused("copy(2, 2, 0, 1, 4)", -5);
        refused("judge(2, 0, 5)", -15);
        refused("node(0, 4, 0)", -5);
        refused("child(0, 4, 0)", -5);
        refused("above(0, 1, 5)", -5);
        refused("patchOf(4, 0)", -5);
        refused("edit(3, 1, 0)", -5);
        refused("touched(3, 2)", -5);
        refused("conflict(3, 0, 0)", -5);
        refused("hand(5, 97, 0)", -5);
        refused("put(0, 5, 1, 0)", -5);
    }

    private static void refusalsChangeNothing() {
        sentence(TERMS, "the call answers the number; nothing changes but how many there were");
        grownRich();
        String[] calls = {"row(9, 0, 1) -1", "row(2, 0, -1) -4", "row(2, 4, 1) -6", "row(0, 0, 161) -7",
            "set(8, 0, 1) -1", "set(0, 0, 1) -2", "set(3, 0, 1) -3", "set(2, 4, 1) -5", "copy(2, 8, 0, 0, 1) -1",
            "copy(2, 0, 0, 0, 1) -2", "copy(2, 7, 0, 0, 1) -2", "copy(2, 3, 0, 0, 1) -3", "copy(2, 2, 0, 1, -1) -4",
            "copy(2, 2, 0, 1, 4) -5", "show(0, 4) -1", "says(0, 4) -1", "says(2, 0) -2", "says(1, 1) -2",
            "says(3, 0) -3", "tree(-1) -1", "tree(0) -2", "tree(3) -3", "tree(2) -6", "nodes(2) -1", "node(2, 0, 0) -1",
            "node(0, 4, 0) -5", "find(2, 1) -11", "child(0, 1, 2) -5", "above(0, 9, 1) -5", "same(0, 2) -1",
            "drop(0) -6", "drop(2) -1", "difference(0, 2) -1", "far(2, 0) -1", "moves(2, 2) -1", "patchOf(4, 0) -5",
            "edit(0, 99, 0) -5", "touched(0, 2) -5", "apply(0, 2) -1", "sticks(4, 0) -11", "invert(4) -1",
            "behind(0, 4) -1", "squeeze(-1) -1", "rebase(4, 0) -1", "rebase(0, 2) -1", "conflict(0, 0, 0) -5",
            "hand(9, 97, 0) -5", "hand(1, 96, 0) -6", "put(0, 9, 1, 0) -5", "put(0, 2, 3, 0) -6", "judge(2, 2, 1) -11",
            "judge(0, 0, 1) -12", "judge(3, 0, 1) -13", "judge(2, 0, -1) -14", "judge(2, 0, 5) -15", "days(0, 61) -6",
            "days(2, 1) -1"};
        for (String told : calls) {
            int space = told.lastIndexOf(' ');
            refused(told.substring(0, space), Integer.parseInt(told.substring(space + 1)));
        }
    }

    private static void refusalsInOrder() {
        sentence(TERMS, "the first that fits, in this order");
        grownRich();
        String[] calls = {"row(8, 4, -1) -1", "row(8, 4, 161) -1", "row(0, 4, -1) -4", "row(0, 4, 161) -6",
            "set(8, -1, 0) -1", "set(0, -1, 0) -2", "set(3, -1, 0) -3", "copy(8, 0, -1, -1, -1) -1",
            "copy(0, 8, -1, -1, -1) -1", "copy(3, 8, -1, -1, -1) -1", "copy(0, 3, -1, -1, -1) -2",
            "copy(3, 0, -1, -1, -1) -2", "copy(0, 2, -1, -1, -1) -2", "copy(2, 0, -1, -1, -1) -2",
            "copy(2, 7, -1, -1, -1) -2", "copy(3, 4, -1, -1, -1) -3", "copy(2, 3, -1, -1, -1) -3",
            "copy(3, 2, -1, -1, -1) -3", "copy(2, 2, -1, -1, -1) -4", "copy(2, 2, 5, 5, -1) -4", "says(2, 4) -1",
            "says(3, -1) -1", "says(8, 0) -1", "says(1, 4) -1", "says(2, 2) -2", "says(3, 2) -3", "node(2, -1, 9) -1",
            "child(2, 9, 9) -1", "above(2, 9, 9) -1", "drop(3) -1", "edit(4, 99, 99) -1", "touched(4, 9) -1",
            "conflict(4, 9, 9) -1", "hand(9, 0, 2) -1", "hand(9, 0, 0) -5", "put(2, 9, 9, -1) -1",
            "put(0, 9, 1, -1) -5", "put(0, 1, 9, -1) -5", "judge(8, 0, -1) -11", "judge(0, 2, 99) -11",
            "judge(3, 2, -1) -11", "judge(0, 0, -1) -12", "judge(0, 0, 99) -12", "judge(3, 0, -1) -13",
            "judge(3, 0, 99) -13", "judge(2, 0, 61) -15", "days(2, 0) -1", "difference(0, 9) -1", "far(9, 0) -1",
            "moves(9, 9) -1", "apply(0, 9) -1", "apply(9, 0) -1", "sticks(9, 9) -11"};
        for (String told : calls) {
            int space = told.lastIndexOf(' ');
            refused(told.substring(0, space), Integer.parseInt(told.substring(space + 1)));
        }

        sentence(TERMS, "-6 WRONG: a number that may not be, a FAULT, what can't be as things stand. -7 ROOM: more than may be");
        write(7, "a1");
        for (int t = 0; t < 15; t++) {
            due("tree(7)", t);
        }
        grown(15, "b2(c1)");
        named(16);
        refused("difference(0, 16)", -1);
        refused("difference(0, 15)", -6);
        refused("difference(0, 1)", -7);
        refused("invert(16)", -1);
        refused("behind(0, 16)", -1);
        refused("squeeze(16)", -1);
        refused("rebase(0, 16)", -1);
        refused("hand(9, 0, 16)", -1);
        refused("hand(9, 0, 0)", -5);
        refused("hand(1, 0, 0)", -6);
        refused("put(15, 9, 1, 0)", -5);
        refused("put(15, 1, 2, 1)", -6);
        refused("put(15, 1, 2, 0)", -7);
        due("set(7, 0, 0)", 1);
        refused("tree(7)", -6);
        due("fault()", 0);
        due("set(7, 0, 97)", 1);
        write(7, "a1");
        refused("tree(7)", -7);
        due("fault()", -1);
    }
}
