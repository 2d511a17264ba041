/** Promise 1 and its boundary cases, a sentence of the document at a time. */
public final class Boundary01ConstructionTest {
    private static final int[] BELOW_ALL = {Integer.MIN_VALUE, Integer.MIN_VALUE + 1, -65536, -256, -64, -16, -8, -1, 0, 1, 7};
    private static final int[] ABOVE_ALL = {257, 272, 512, 65536, 65552, Integer.MAX_VALUE - 1, Integer.MAX_VALUE};
    private static final int[] ARGUMENTS = {Integer.MIN_VALUE, -256, -1, 0, 1, 7, 8, 9, 15, 16, 17, 63, 64, 65, 255, 256,
        257, 65552, Integer.MAX_VALUE};

    /** Exactly so many characters are taken, and the next one is not. */
    private static void inputRoom(int argument, int room) {
        MarkupTreeBuilder x = new MarkupTreeBuilder(argument, 64, 256);
        for (int i = 0; i < room; i++) {
            Check.due("feed number " + i + " with inputCap " + argument, x.feed('x'), true);
        }
        Check.due("feed number " + room + " with inputCap " + argument, x.feed('x'), false);
        x.parse();
        Check.due("characters of text with inputCap " + argument, x.dataLength(1), room);
    }

    /** Exactly so many nodes, ROOT included, fit. */
    private static void nodeRoom(int argument, int room) {
        MarkupTreeBuilder x = Check.feed(new MarkupTreeBuilder(256, argument, 256), "<br>".repeat(room - 1));
        Check.due("parse() of the last node that fits with nodeCap " + argument, x.parse(), MarkupTreeBuilder.DONE);
        Check.due("nodeCount() then", x.nodeCount(), room);
        x = Check.feed(new MarkupTreeBuilder(256, argument, 256), "<br>".repeat(room));
        Check.due("parse() of the first that does not with nodeCap " + argument, x.parse(), MarkupTreeBuilder.FULL);
        Check.due("nodeCount() then", x.nodeCount(), room);
    }

    /** Exactly so much attribute text fits. */
    private static void attrRoom(int argument, int room) {
        MarkupTreeBuilder x = Check.feed(new MarkupTreeBuilder(256, 64, argument), Check.tagWithText("b", room));
        Check.due("parse() of the longest text that fits with attrCap " + argument, x.parse(), MarkupTreeBuilder.DONE);
        Check.due("dataLength(1) then", x.dataLength(1), room);
        x = Check.feed(new MarkupTreeBuilder(256, 64, argument), Check.tagWithText("b", room + 1));
        Check.due("parse() of the shortest that does not with attrCap " + argument, x.parse(), MarkupTreeBuilder.FULL);
        Check.due("nodeCount() then", x.nodeCount(), 1);
    }

    private static void belowTheLeast() {
        Check.sentence("below the least it becomes the least");
        for (int argument : BELOW_ALL) {
            inputRoom(argument, 16);
            nodeRoom(argument, 8);
            attrRoom(argument, 16);
        }
        int[] belowTwo = {8, 14, 15};
        for (int argument : belowTwo) {
            inputRoom(argument, 16);
            attrRoom(argument, 16);
        }
    }

    private static void aboveTheGreatest() {
        Check.sentence("above the greatest it becomes the greatest");
        for (int argument : ABOVE_ALL) {
            inputRoom(argument, 256);
            nodeRoom(argument, 64);
            attrRoom(argument, 256);
        }
        int[] aboveOne = {65, 66, 128, 255, 256};
        for (int argument : aboveOne) {
            nodeRoom(argument, 64);
        }
    }

    private static void within() {
        Check.sentence("inputCap is in 16..256");
        for (int argument = 16; argument <= 256; argument++) {
            inputRoom(argument, argument);
        }
        Check.sentence("nodeCap in 8..64 (ROOT included)");
        for (int argument = 8; argument <= 64; argument++) {
            nodeRoom(argument, argument);
        }
        Check.sentence("attrCap in 16..256");
        for (int argument = 16; argument <= 256; argument++) {
            attrRoom(argument, argument);
        }
    }

    private static int clamped(int argument, int least, int greatest) {
        return Math.max(least, Math.min(greatest, argument));
    }

    private static void anyInt() {
        Check.sentence("Any int is accepted for each argument.");
        for (int inputCap : ARGUMENTS) {
            for (int nodeCap : ARGUMENTS) {
                for (int attrCap : ARGUMENTS) {
                    allThree(inputCap, nodeCap, attrCap);
                }
            }
        }
    }

    private static void allThree(int inputCap, int nodeCap, int attrCap) {
        String told = inputCap + ", " + nodeCap + ", " + attrCap;
        MarkupTreeBuilder x = new MarkupTreeBuilder(inputCap, nodeCap, attrCap);
        int taken = 0;
        for (int i = 0; i < 260; i++) {
            taken += x.feed("<br>".charAt(i % 4)) ? 1 : 0;
        }
        Check.due("characters taken with " + told, taken, clamped(inputCap, 16, 256));
        x.parse();
        // A '<' left alone at the end is text, and the other beginnings of the tag are dropped.
        int asked = 1 + taken / 4 + (taken % 4 == 1 ? 1 : 0);
        Check.due("nodes with " + told, x.nodeCount(), Math.min(asked, clamped(nodeCap, 8, 64)));
        x.reset();
        // 5 characters of attribute text for 2 of input, up to what 16 characters of input hold.
        Check.feed(x, "<b a c d e>");
        boolean fits = clamped(attrCap, 16, 256) >= 20;
        Check.due("parse() of 20 attribute text with " + told, x.parse(), fits ? 1 : 2);
    }

    private static void startState() {
        Check.sentence("The object begins in the start state: empty input, tree = ROOT only, stack [0], empty list, "
            + "status NOT_PARSED.");
        String due = "status 0 nodes 1\n 0 kind 0 parent -1 children [] data 0 []\n stack 0\n list \n serialization ";
        for (int argument : ARGUMENTS) {
            MarkupTreeBuilder x = new MarkupTreeBuilder(argument, argument, argument);
            Check.due("the new object with " + argument, Check.everything(x), due);
            Check.due("parse() of its empty input", x.parse(), MarkupTreeBuilder.DONE);
            Check.due("the object then", Check.everything(x), due.replace("status 0", "status 1"));
        }
    }

    /** What one object does, another one does not feel. */
    private static void twoObjects() {
        Check.sentence("The object begins in the start state");
        MarkupTreeBuilder first = Check.parsed("<b a>x<object>");
        String before = Check.everything(first);
        MarkupTreeBuilder second = new MarkupTreeBuilder(16, 8, 16);
        Check.due("status() of a second object", second.status(), MarkupTreeBuilder.NOT_PARSED);
        Check.feed(second, "<i>");
        second.parse();
        second.reset();
        Check.due("the first object after the second one's calls", Check.everything(first), before);
    }

    public static void main(String[] args) {
        belowTheLeast();
        aboveTheGreatest();
        within();
        anyInt();
        startState();
        twoObjects();
        Check.end();
    }
}
