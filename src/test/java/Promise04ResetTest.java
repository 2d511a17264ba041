/** Promise 4: reset returns to the start state from every state and keeps the capacities. */
public final class Promise04ResetTest {
    private static final String MARKUP = "<b a=\"1\">1<p>2</b><object>3<i c>4<!--5--></p>6";

    private static void backToTheStart(String from, MarkupTreeBuilder x) {
        String start = Check.everything(Check.large());
        x.reset();
        Check.due("the object after reset from " + from, Check.everything(x), start);
        Check.due("listEntry(0) after it", x.listEntry(0), -2);
        Check.due("stackNode(1) after it", x.stackNode(1), -1);
        Check.due("nodeKind(1) after it", x.nodeKind(1), -1);
        Check.due("dataChar(1, 0) after it", x.dataChar(1, 0), 0);
        Check.due("serialChar(0) after it", x.serialChar(0), 0);
        Check.due("parse() of the emptied input", x.parse(), MarkupTreeBuilder.DONE);
        Check.due("nodeCount() of the emptied input", x.nodeCount(), 1);
    }

    private static void sameAnswersAgain() {
        MarkupTreeBuilder x = Check.parsed(MARKUP);
        String first = Check.everything(x);
        for (int i = 0; i < 5; i++) {
            x.reset();
            Check.feed(x, MARKUP);
            Check.due("parse() after reset", x.parse(), MarkupTreeBuilder.DONE);
            Check.due("the object after the same input", Check.everything(x), first);
        }
    }

    private static void nothingIsLeftOfEarlierInputs() {
        String[] inputs = {MARKUP, "x".repeat(256), "<!--" + "y".repeat(252), "<b a=\"" + "v".repeat(248) + "\">",
            "<br>".repeat(64), "<object>".repeat(32), "<b>" + "<div>".repeat(10) + "x</b>y", "<p>x", ""};
        MarkupTreeBuilder x = Check.large();
        for (int i = 0; i < 5 * inputs.length; i++) {
            String markup = inputs[i * 2 % inputs.length];
            MarkupTreeBuilder fresh = Check.feed(Check.large(), markup);
            x.reset();
            Check.feed(x, markup);
            Check.due("parse() after reset", x.parse(), fresh.parse());
            Check.due("the object, and a new one", Check.everything(x), Check.everything(fresh));
        }
    }

    private static void capacitiesAreKept() {
        MarkupTreeBuilder x = new MarkupTreeBuilder(20, 8, 17);
        for (int i = 0; i < 3; i++) {
            x.reset();
            Check.feed(x, "<b abcdefghijklm>xyz");
            Check.due("feed beyond inputCap", x.feed('x'), false);
            Check.due("parse() with all the attribute text", x.parse(), MarkupTreeBuilder.DONE);
            x.reset();
            Check.feed(x, "<b abcdefghijklmn>");
            Check.due("parse() with more", x.parse(), MarkupTreeBuilder.FULL);
            x.reset();
            Check.feed(x, "<p><p><p><p>x<b>y");
            Check.due("parse() with all the nodes", x.parse(), MarkupTreeBuilder.DONE);
            x.reset();
            Check.feed(x, "<p><p><p><p>x<b><i>y");
            Check.due("parse() with one more", x.parse(), MarkupTreeBuilder.FULL);
        }
    }

    public static void main(String[] args) {
        backToTheStart("the start", Check.large());
        backToTheStart("fed input", Check.feed(Check.large(), MARKUP));
        backToTheStart("DONE", Check.parsed(MARKUP));
        backToTheStart("FULL", Check.full("<b><i><u><div>x<br></b>", 8, 16));
        sameAnswersAgain();
        nothingIsLeftOfEarlierInputs();
        capacitiesAreKept();
        Check.end();
    }
}
