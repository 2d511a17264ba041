/** Promise 2 and its boundary cases, a sentence of the document at a time. */
public final class Boundary02FeedTest {
    private static final int[] WRONG = {0, 1, 7, 8, 11, 12, 13, 14, 30, 31, 127, 128, 160, 255, 256, 256 + 'x', 65536, 65536 + 9,
        65536 + 'x', -1, -9, -10, -32, -'x', -65536 + 'x', Integer.MIN_VALUE, Integer.MIN_VALUE + 'x', Integer.MAX_VALUE};
    private static final int[] RIGHT = {9, 10, 32, 33, 34, 125, 126};

    private static void beforeTheParse() {
        Check.sentence("status is NOT_PARSED");
        MarkupTreeBuilder x = Check.large();
        Check.due("feed before the parse", x.feed('x'), true);
        x.parse();
        Check.due("feed after DONE", x.feed('x'), false);
        x.parse();
        Check.due("feed after a second parse()", x.feed('x'), false);
        x.reset();
        Check.due("feed after reset()", x.feed('x'), true);
        x.reset();
        x.parse();
        Check.due("feed after DONE of an empty input", x.feed('x'), false);
        Check.due("feed after FULL for nodes", Check.full("<br>".repeat(8), 8, 16).feed('x'), false);
        Check.due("feed after FULL for attribute text", Check.full("<b a c d e>", 8, 16).feed('x'), false);
    }

    private static void room() {
        Check.sentence("the input holds fewer than inputCap characters");
        int[] caps = {16, 17, 100, 255, 256};
        for (int cap : caps) {
            MarkupTreeBuilder x = new MarkupTreeBuilder(cap, 64, 256);
            Check.feed(x, "a".repeat(cap - 1));
            Check.due("feed of the last of " + cap, x.feed('z'), true);
            for (int i = 0; i < 1000; i++) {
                Check.due("feed beyond " + cap, x.feed('!'), false);
            }
            x.parse();
            Check.due("text of " + cap, Check.data(x, 1), "a".repeat(cap - 1) + "z");
        }
    }

    private static void characters() {
        Check.sentence("ch is 9, 10 or 32..126");
        for (int ch : WRONG) {
            Check.due("feed(" + ch + ")", Check.large().feed(ch), false);
        }
        for (int ch : RIGHT) {
            Check.due("feed(" + ch + ")", Check.large().feed(ch), true);
        }
        MarkupTreeBuilder x = Check.large();
        StringBuilder due = new StringBuilder();
        for (int ch = -1000; ch < 1000; ch++) {
            if (ch != '<' && ch != '&' && x.feed(ch)) {
                due.append((char) ch);
            }
        }
        Check.due("how many are input characters, '<' and '&' left out", due.length(), 95);
        x.parse();
        Check.due("each of them as text", Check.data(x, 1), due.toString());
    }

    /** FULL comes of four attributes, so that the input may be short. */
    private static MarkupTreeBuilder made(int status, boolean full) {
        MarkupTreeBuilder x = new MarkupTreeBuilder(16, 8, 16);
        Check.feed(x, status == MarkupTreeBuilder.FULL ? "<b a c d e>" : "<b a c d>..");
        Check.feed(x, full ? "12345" : "1");
        if (status != MarkupTreeBuilder.NOT_PARSED) {
            Check.due("parse()", x.parse(), status);
        }
        return x;
    }

    private static void anyTestFails() {
        Check.sentence("If any test fails, it answers false and nothing changes.");
        for (int status = MarkupTreeBuilder.NOT_PARSED; status <= MarkupTreeBuilder.FULL; status++) {
            for (int full = 0; full <= 1; full++) {
                for (int wrong = 0; wrong <= 1; wrong++) {
                    MarkupTreeBuilder x = made(status, full == 1);
                    String before = Check.everything(x);
                    boolean due = status == MarkupTreeBuilder.NOT_PARSED && full == 0 && wrong == 0;
                    String told = "with status " + status + (full == 1 ? ", full" : "") + (wrong == 1 ? ", wrong" : "");
                    Check.due("feed " + told, x.feed(wrong == 1 ? 11 : 'y'), due);
                    Check.due("the object after feed " + told, Check.everything(x), before);
                    x.parse();
                    String text = full == 1 ? "..12345" : due ? "..1y" : "..1";
                    String tree = status == MarkupTreeBuilder.FULL ? "" : "<b a=\"\" c=\"\" d=\"\">" + text + "</b>";
                    Check.due("serialization after feed " + told, Check.serial(x), tree);
                }
            }
        }
    }

    private static void refusedCharactersLeaveNoTrace() {
        Check.sentence("If any test fails, it answers false and nothing changes.");
        MarkupTreeBuilder x = Check.large();
        for (int ch : WRONG) {
            Check.due("feed(" + ch + ") first", x.feed(ch), false);
        }
        String markup = "<b a=\"1\">&lt;</b>";
        for (int i = 0; i < markup.length(); i++) {
            Check.due("feed of what is right", x.feed(markup.charAt(i)), true);
            for (int ch : WRONG) {
                Check.due("feed(" + ch + ") in between", x.feed(ch), false);
            }
        }
        x.parse();
        Check.due("serialization without what was refused", Check.serial(x), markup);
    }

    private static void addedAtTheEnd() {
        Check.sentence("Otherwise ch is added at the end of the input and the answer is true.");
        MarkupTreeBuilder x = new MarkupTreeBuilder(16, 8, 16);
        Check.feed(x, "0123456789abcdef");
        x.parse();
        Check.due("text of a full input", Check.data(x, 1), "0123456789abcdef");
    }

    private static void nothingElseChanges() {
        Check.sentence("The tree, stack, list and status do not change.");
        MarkupTreeBuilder x = new MarkupTreeBuilder(16, 8, 16);
        String before = Check.everything(x);
        String markup = "<b><object>x<br>y";
        for (int i = 0; i < markup.length(); i++) {
            x.feed(markup.charAt(i));
            Check.due("the object after feed number " + i, Check.everything(x), before);
        }
    }

    public static void main(String[] args) {
        beforeTheParse();
        room();
        characters();
        anyTestFails();
        refusedCharactersLeaveNoTrace();
        addedAtTheEnd();
        nothingElseChanges();
        Check.end();
    }
}
