/** Promises 6 to 10: nodeCount, nodeKind, nodeParent, nodeChild, dataLength and dataChar. */
public final class Promise06To10NodesTest {
    private static final int[] OUTSIDE = {-1, -2, -100, Integer.MIN_VALUE, Integer.MAX_VALUE, 1000, 64, 65};
    // b1 t2 p3 t4 comment5 br6, then clone b7 and text 8
    private static final String MARKUP = "<b a=\"1\">xy<p>z<!--c!--><br></b>w";

    private static void nodeCount() {
        Check.due("nodeCount() at the start", Check.large().nodeCount(), 1);
        Check.due("nodeCount() of nothing", Check.parsed("<x></b>").nodeCount(), 1);
        Check.due("nodeCount() before the parse", Check.feed(Check.large(), MARKUP).nodeCount(), 1);
        Check.due("nodeCount()", Check.parsed(MARKUP).nodeCount(), 9);
        Check.due("nodeCount() of FULL", Check.full("<br>".repeat(20), 12, 16).nodeCount(), 12);
    }

    private static void nodeKind(MarkupTreeBuilder x) {
        int[] kinds = {MarkupTreeBuilder.ROOT, MarkupTreeBuilder.B, MarkupTreeBuilder.TEXT, MarkupTreeBuilder.P,
            MarkupTreeBuilder.TEXT, MarkupTreeBuilder.COMMENT, MarkupTreeBuilder.BR, MarkupTreeBuilder.B, MarkupTreeBuilder.TEXT};
        for (int n = 0; n < kinds.length; n++) {
            Check.due("nodeKind(" + n + ")", x.nodeKind(n), kinds[n]);
        }
        MarkupTreeBuilder all = Check.parsed("<b><i><u><em><s><span><div><ul><li><object><p><br>");
        int[] order = {0, 1, 2, 3, 4, 5, 6, 7, 9, 10, 11, 8, 12};
        for (int n = 0; n < order.length; n++) {
            Check.due("kind of node " + n + " of all kinds", all.nodeKind(n), order[n]);
        }
    }

    private static void nodeParent(MarkupTreeBuilder x) {
        int[] parents = {-1, 0, 1, 0, 7, 7, 7, 3, 3};
        for (int n = 0; n < parents.length; n++) {
            Check.due("nodeParent(" + n + ")", x.nodeParent(n), parents[n]);
        }
        MarkupTreeBuilder full = Check.full("<b><i><u><div>x<br></b>", 8, 16);
        Check.due("parent of a node that was never given one", full.nodeParent(7), -1);
    }

    private static void nodeChild(MarkupTreeBuilder x) {
        String[] children = {"1 3", "2", "", "7 8", "", "", "", "4 5 6", ""};
        for (int n = 0; n < children.length; n++) {
            Check.due("children of " + n, Check.children(x, n), children[n]);
            Check.due("child beyond the last of " + n, x.nodeChild(n, children[n].split(" ").length), -1);
            for (int k : OUTSIDE) {
                Check.due("nodeChild(" + n + ", " + k + ")", x.nodeChild(n, k), -1);
            }
        }
        Check.due("nodeChild(7, 0)", x.nodeChild(7, 0), 4);
        Check.due("nodeChild(7, 1)", x.nodeChild(7, 1), 5);
        Check.due("nodeChild(7, 2)", x.nodeChild(7, 2), 6);
        Check.due("nodeChild(7, 3)", x.nodeChild(7, 3), -1);
    }

    private static void nodeData(MarkupTreeBuilder x) {
        String[] data = {"", " a=\"1\"", "xy", "", "z", "c!", "", " a=\"1\"", "w"};
        for (int n = 0; n < data.length; n++) {
            Check.due("dataLength(" + n + ")", x.dataLength(n), data[n].length());
            Check.due("data of " + n, Check.data(x, n), data[n]);
            Check.due("character beyond the last of " + n, x.dataChar(n, data[n].length()), 0);
            for (int k : OUTSIDE) {
                Check.due("dataChar(" + n + ", " + k + ")", x.dataChar(n, k), 0);
            }
        }
        Check.due("dataChar(2, 0)", x.dataChar(2, 0), 'x');
        Check.due("dataChar(2, 1)", x.dataChar(2, 1), 'y');
    }

    private static void nodesThatAreNot(MarkupTreeBuilder x) {
        int[] next = {x.nodeCount(), x.nodeCount() + 1};
        int[][] groups = {OUTSIDE, next};
        for (int[] group : groups) {
            for (int n : group) {
                Check.due("nodeKind(" + n + ")", x.nodeKind(n), -1);
                Check.due("nodeParent(" + n + ")", x.nodeParent(n), -1);
                Check.due("nodeChild(" + n + ", 0)", x.nodeChild(n, 0), -1);
                Check.due("nodeChild(" + n + ", " + n + ")", x.nodeChild(n, n), -1);
                Check.due("dataLength(" + n + ")", x.dataLength(n), -1);
                Check.due("dataChar(" + n + ", 0)", x.dataChar(n, 0), 0);
                Check.due("dataChar(" + n + ", " + n + ")", x.dataChar(n, n), 0);
            }
        }
    }

    public static void main(String[] args) {
        nodeCount();
        MarkupTreeBuilder x = Check.parsed(MARKUP);
        String before = Check.everything(x);
        nodeKind(x);
        nodeParent(x);
        nodeChild(x);
        nodeData(x);
        nodesThatAreNot(x);
        Check.due("the object after all the questions", Check.everything(x), before);
        nodesThatAreNot(Check.large());
        nodesThatAreNot(Check.full("<br>".repeat(9), 8, 16));
        // A node of an earlier parse is none any more.
        x.reset();
        nodesThatAreNot(x);
        Check.feed(x, "<i>");
        x.parse();
        nodesThatAreNot(x);
        Check.end();
    }
}
