/** Promises 11 and 12: stackSize, stackNode, listSize and listEntry. */
public final class Promise11To12StackAndListTest {
    private static final int[] OUTSIDE = {-1, -2, Integer.MIN_VALUE, Integer.MAX_VALUE, 63, 64, 65, 1000};

    private static void positionsThatAreNot(MarkupTreeBuilder x) {
        for (int i : OUTSIDE) {
            Check.due("stackNode(" + i + ")", x.stackNode(i), -1);
            Check.due("listEntry(" + i + ")", x.listEntry(i), -2);
        }
        Check.due("stackNode(stackSize())", x.stackNode(x.stackSize()), -1);
        Check.due("listEntry(listSize())", x.listEntry(x.listSize()), -2);
    }

    private static void start() {
        MarkupTreeBuilder x = Check.large();
        Check.due("stackSize() at the start", x.stackSize(), 1);
        Check.due("stackNode(0) at the start", x.stackNode(0), 0);
        Check.due("listSize() at the start", x.listSize(), 0);
        positionsThatAreNot(x);
    }

    private static void afterAParse() {
        MarkupTreeBuilder x = Check.parsed("<b><object><object><i>x<u>y");
        int[] stack = {0, 1, 2, 3, 4, 6};
        int[] list = {1, -1, -1, 4, 6};
        String before = Check.everything(x);
        Check.due("stackSize()", x.stackSize(), stack.length);
        Check.due("listSize()", x.listSize(), list.length);
        for (int i = 0; i < stack.length; i++) {
            Check.due("stackNode(" + i + ")", x.stackNode(i), stack[i]);
        }
        for (int i = 0; i < list.length; i++) {
            Check.due("listEntry(" + i + ")", x.listEntry(i), list[i]);
        }
        positionsThatAreNot(x);
        Check.due("the object after all the questions", Check.everything(x), before);
    }

    private static void nodesThatLeft() {
        MarkupTreeBuilder x = Check.parsed("<b><i>x</i></b>");
        Check.due("stackSize()", x.stackSize(), 1);
        Check.due("stackNode(1)", x.stackNode(1), -1);
        Check.due("listSize()", x.listSize(), 0);
        Check.due("listEntry(0)", x.listEntry(0), -2);
        positionsThatAreNot(x);
    }

    private static void asManyAsThereAre() {
        StringBuilder markup = new StringBuilder();
        for (int i = 0; i < 63; i++) {
            markup.append("<").append("biu".charAt(i % 3)).append(">");
        }
        MarkupTreeBuilder x = Check.parsed(markup.toString());
        Check.due("stackSize() of all nodes", x.stackSize(), 64);
        Check.due("stackNode(63)", x.stackNode(63), 63);
        Check.due("listSize() of three alike each", x.listSize(), 9);
        x = Check.parsed("<object>".repeat(32));
        Check.due("stackSize() of objects", x.stackSize(), 33);
        Check.due("listSize() of markers", x.listSize(), 32);
        Check.due("listEntry(31)", x.listEntry(31), -1);
        Check.due("listEntry(32)", x.listEntry(32), -2);
    }

    public static void main(String[] args) {
        start();
        afterAParse();
        nodesThatLeft();
        asManyAsThereAre();
        Check.end();
    }
}
