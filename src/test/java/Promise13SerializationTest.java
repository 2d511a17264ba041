/** Promise 13: serialLength and serialChar. */
public final class Promise13SerializationTest {
    private static final int[] OUTSIDE = {-1, -2, Integer.MIN_VALUE, Integer.MAX_VALUE, 100000, 20000, 19999};

    private static void positionsThatAreNot(MarkupTreeBuilder x) {
        for (int k : OUTSIDE) {
            Check.due("serialChar(" + k + ")", x.serialChar(k), 0);
        }
        Check.due("serialChar(serialLength())", x.serialChar(x.serialLength()), 0);
    }

    private static void everyKind() {
        String markup = "<div a=\"1\"><ul><li><object><b><i><u><em><s><span c=\"&lt;\">&lt;&amp;>\"<!--<&-->"
            + "<br d=\"2\">x</span></s></em></u></i></b></object></li></ul></div><p></p>";
        MarkupTreeBuilder x = Check.prints(markup, markup);
        Check.due("serialLength()", x.serialLength(), markup.length());
        Check.due("serialChar(0)", x.serialChar(0), '<');
        Check.due("serialChar(1)", x.serialChar(1), 'd');
        Check.due("last character", x.serialChar(markup.length() - 1), '>');
        positionsThatAreNot(x);
    }

    private static void rootAlone() {
        MarkupTreeBuilder x = Check.large();
        Check.due("serialLength() at the start", x.serialLength(), 0);
        positionsThatAreNot(x);
        Check.feed(x, "<b>x");
        Check.due("serialLength() before the parse", x.serialLength(), 0);
        Check.due("serialChar(0) before the parse", x.serialChar(0), 0);
        x.parse();
        Check.due("serialLength() after the parse", x.serialLength(), 8);
        x.reset();
        Check.due("serialLength() after reset()", x.serialLength(), 0);
        Check.due("serialChar(0) after reset()", x.serialChar(0), 0);
        Check.due("serialLength() of an ignored tag", Check.parsed("</div>").serialLength(), 0);
    }

    private static void whatIsNotUnderTheRootIsNotWritten() {
        MarkupTreeBuilder x = Check.full("<b><i><u><div>x<br></b>", 8, 16);
        Check.due("serialization after FULL", Check.serial(x), "<b><i><u></u></i></b>");
        Check.due("serialLength() after FULL", x.serialLength(), 21);
    }

    private static void asLongAsItGets() {
        String value = "v".repeat(140);
        String open = "<b a=\"" + value + "\">";
        // Every paragraph is left with the formatting open, and the next one makes it anew.
        String markup = "<p>" + open + "<p>&".repeat(20);
        String due = "<p>" + open + "</b></p>" + ("<p>" + open + "&amp;</b></p>").repeat(20);
        MarkupTreeBuilder x = Check.prints(markup, due);
        Check.due("serialLength() of many clones", x.serialLength(), due.length());
        positionsThatAreNot(x);
        Check.prints("&".repeat(256), "&amp;".repeat(256));
    }

    private static void nothingChanges() {
        MarkupTreeBuilder x = Check.parsed("<b>1<p>2</b>3");
        String before = Check.everything(x);
        x.serialLength();
        x.serialChar(5);
        positionsThatAreNot(x);
        Check.due("the object after all the questions", Check.everything(x), before);
        MarkupTreeBuilder fed = Check.feed(Check.large(), "<b>");
        fed.serialLength();
        fed.serialChar(0);
        Check.due("feed after the questions", fed.feed('x'), true);
        fed.parse();
        Check.due("serialization after the questions", Check.serial(fed), "<b>x</b>");
    }

    public static void main(String[] args) {
        everyKind();
        rootAlone();
        whatIsNotUnderTheRootIsNotWritten();
        asLongAsItGets();
        nothingChanges();
        Check.end();
    }
}
