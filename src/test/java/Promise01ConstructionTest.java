/** Promise 1: each capacity is clamped, and the object begins in the start state. */
public final class Promise01ConstructionTest {
    private static void inputCap(int argument, int capacity) {
        MarkupTreeBuilder x = new MarkupTreeBuilder(argument, 64, 256);
        int taken = 0;
        for (int i = 0; i < 300; i++) {
            taken += x.feed('x') ? 1 : 0;
        }
        Check.due("characters taken with inputCap " + argument, taken, capacity);
    }

    private static void nodeCap(int argument, int capacity) {
        String fits = "<br>".repeat(capacity - 1);
        MarkupTreeBuilder x = Check.feed(new MarkupTreeBuilder(256, argument, 256), fits);
        Check.due("parse() of " + (capacity - 1) + " nodes with nodeCap " + argument, x.parse(), 1);
        Check.due("nodeCount() with nodeCap " + argument, x.nodeCount(), capacity);
        x = Check.feed(new MarkupTreeBuilder(256, argument, 256), fits + "<br>");
        Check.due("parse() of " + capacity + " nodes with nodeCap " + argument, x.parse(), 2);
        Check.due("nodeCount() with nodeCap " + argument, x.nodeCount(), capacity);
    }

    private static void attrCap(int argument, int capacity) {
        MarkupTreeBuilder x = new MarkupTreeBuilder(256, 64, argument);
        Check.feed(x, Check.tagWithText("b", capacity));
        Check.due("parse() of " + capacity + " attribute text with attrCap " + argument, x.parse(), 1);
        Check.due("dataLength(1) with attrCap " + argument, x.dataLength(1), capacity);
        x = Check.feed(new MarkupTreeBuilder(256, 64, argument), Check.tagWithText("b", capacity + 1));
        Check.due("parse() of " + (capacity + 1) + " attribute text with attrCap " + argument, x.parse(), 2);
    }

    private static void startState(int argument) {
        MarkupTreeBuilder x = new MarkupTreeBuilder(argument, argument, argument);
        Check.due("status()", x.status(), MarkupTreeBuilder.NOT_PARSED);
        Check.due("nodeCount()", x.nodeCount(), 1);
        Check.due("nodeKind(0)", x.nodeKind(0), MarkupTreeBuilder.ROOT);
        Check.due("nodeParent(0)", x.nodeParent(0), -1);
        Check.due("nodeChild(0, 0)", x.nodeChild(0, 0), -1);
        Check.due("dataLength(0)", x.dataLength(0), 0);
        Check.due("stack", Check.stack(x), "0");
        Check.due("listSize()", x.listSize(), 0);
        Check.due("serialLength()", x.serialLength(), 0);
        Check.due("parse() of no input", x.parse(), MarkupTreeBuilder.DONE);
        Check.due("nodeCount() after no input", x.nodeCount(), 1);
    }

    public static void main(String[] args) {
        int[] below = {Integer.MIN_VALUE, -1, 0, 1};
        for (int argument : below) {
            inputCap(argument, 16);
            nodeCap(argument, 8);
            attrCap(argument, 16);
            startState(argument);
        }
        int[] above = {257, 1000, Integer.MAX_VALUE};
        for (int argument : above) {
            inputCap(argument, 256);
            nodeCap(argument, 64);
            attrCap(argument, 256);
            startState(argument);
        }
        int[] within = {16, 17, 100, 255, 256};
        for (int argument : within) {
            inputCap(argument, argument);
            attrCap(argument, argument);
        }
        inputCap(15, 16);
        attrCap(15, 16);
        nodeCap(7, 8);
        nodeCap(65, 64);
        int[] nodes = {8, 9, 40, 63};
        for (int argument : nodes) {
            nodeCap(argument, argument);
        }
        eachCapacityIsItsOwn();
        Check.end();
    }

    private static void eachCapacityIsItsOwn() {
        MarkupTreeBuilder x = new MarkupTreeBuilder(40, 9, 20);
        for (int i = 0; i < 40; i++) {
            Check.due("feed number " + i, x.feed("<br>".charAt(i % 4)), true);
        }
        Check.due("feed number 40", x.feed('x'), false);
        Check.due("parse() of ten nodes", x.parse(), MarkupTreeBuilder.FULL);
        Check.due("nodeCount()", x.nodeCount(), 9);
    }
}
