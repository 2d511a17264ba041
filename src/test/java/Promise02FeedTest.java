/** Promise 2: feed takes input characters while there is room and before the parse, and nothing else. */
public final class Promise02FeedTest {
    private static void everyCharacter() {
        for (int ch = -300; ch < 600; ch++) {
            MarkupTreeBuilder x = Check.large();
            boolean input = ch == 9 || ch == 10 || ch >= 32 && ch <= 126;
            Check.due("feed(" + ch + ")", x.feed(ch), input);
            x.parse();
            Check.due("nodeCount() after feed(" + ch + ")", x.nodeCount(), input ? 2 : 1);
        }
        int[] far = {Integer.MIN_VALUE, Integer.MAX_VALUE, 65536 + 'x', -65536 + 'x', 256 + 'x', 1 << 31 | 'x'};
        for (int ch : far) {
            Check.due("feed(" + ch + ")", Check.large().feed(ch), false);
        }
    }

    private static void whatIsRefusedTakesNoRoom() {
        MarkupTreeBuilder x = new MarkupTreeBuilder(16, 8, 16);
        for (int i = 0; i < 16; i++) {
            Check.due("feed(11)", x.feed(11), false);
            Check.due("feed('a' + " + i + ")", x.feed('a' + i), true);
        }
        Check.due("feed beyond inputCap", x.feed('z'), false);
        Check.due("feed beyond inputCap, again", x.feed('z'), false);
        x.parse();
        Check.due("text", Check.data(x, 1), "abcdefghijklmnop");
    }

    private static void refusedAfterTheParse() {
        MarkupTreeBuilder done = Check.parsed("<b>x");
        MarkupTreeBuilder full = Check.full("<br>".repeat(8), 8, 16);
        MarkupTreeBuilder[] both = {done, full};
        for (MarkupTreeBuilder x : both) {
            String before = Check.everything(x);
            Check.due("feed after the parse", x.feed('x'), false);
            Check.due("feed of a wrong character after the parse", x.feed(0), false);
            Check.due("the object after a refused feed", Check.everything(x), before);
        }
    }

    private static void theRestDoesNotChange() {
        MarkupTreeBuilder x = Check.large();
        String before = Check.everything(x);
        Check.feed(x, "<p><b>text<object>");
        Check.due("the object after feeding", Check.everything(x), before);
    }

    public static void main(String[] args) {
        everyCharacter();
        whatIsRefusedTakesNoRoom();
        refusedAfterTheParse();
        theRestDoesNotChange();
        Check.end();
    }
}
