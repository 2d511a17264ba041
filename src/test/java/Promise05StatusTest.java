/** Promise 5: status answers NOT_PARSED, DONE or FULL, and changes nothing. */
public final class Promise05StatusTest {
    public static void main(String[] args) {
        MarkupTreeBuilder x = new MarkupTreeBuilder(256, 8, 16);
        Check.due("status() at the start", x.status(), MarkupTreeBuilder.NOT_PARSED);
        Check.feed(x, "<br>".repeat(7));
        Check.due("status() before the parse", x.status(), MarkupTreeBuilder.NOT_PARSED);
        Check.due("status() again", x.status(), MarkupTreeBuilder.NOT_PARSED);
        Check.due("feed after status()", x.feed('<'), true);
        Check.due("parse()", x.parse(), MarkupTreeBuilder.FULL);
        Check.due("status() of FULL", x.status(), MarkupTreeBuilder.FULL);
        String before = Check.everything(x);
        Check.due("status() of FULL again", x.status(), MarkupTreeBuilder.FULL);
        Check.due("the object after status()", Check.everything(x), before);
        x.reset();
        Check.due("status() after reset()", x.status(), MarkupTreeBuilder.NOT_PARSED);
        Check.feed(x, "<b abcdefghijklm>");
        x.parse();
        Check.due("status() of too much attribute text", x.status(), MarkupTreeBuilder.FULL);
        x.reset();
        Check.feed(x, "<br>".repeat(7));
        x.parse();
        Check.due("status() of DONE", x.status(), MarkupTreeBuilder.DONE);
        Check.due("status() of an empty parse", emptyParse().status(), MarkupTreeBuilder.DONE);
        Check.end();
    }

    private static MarkupTreeBuilder emptyParse() {
        MarkupTreeBuilder x = Check.large();
        x.parse();
        return x;
    }
}
