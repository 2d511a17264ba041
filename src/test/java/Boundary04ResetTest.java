/** Promise 4 and its boundary cases, a sentence of the document at a time. */
public final class Boundary04ResetTest {
    private static final String START =
        "status 0 nodes 1\n 0 kind 0 parent -1 children [] data 0 []\n stack 0\n list \n serialization ";
    private static final int[] INDEXES = {1, 2, 7, 8, 63, 64};

    private static MarkupTreeBuilder small(String markup) {
        return Check.feed(new MarkupTreeBuilder(32, 8, 16), markup);
    }

    private static MarkupTreeBuilder small(String markup, int status) {
        MarkupTreeBuilder x = small(markup);
        Check.due("parse() of " + markup, x.parse(), status);
        return x;
    }

    private static void inTheStartState(String from, MarkupTreeBuilder x) {
        Check.due("the object after reset() from " + from, Check.everything(x), START);
        for (int i : INDEXES) {
            Check.due("nodeKind(" + i + ")", x.nodeKind(i), -1);
            Check.due("nodeParent(" + i + ")", x.nodeParent(i), -1);
            Check.due("nodeChild(" + i + ", 0)", x.nodeChild(i, 0), -1);
            Check.due("nodeChild(0, " + (i - 1) + ")", x.nodeChild(0, i - 1), -1);
            Check.due("dataLength(" + i + ")", x.dataLength(i), -1);
            Check.due("dataChar(" + i + ", 0)", x.dataChar(i, 0), 0);
            Check.due("dataChar(0, " + (i - 1) + ")", x.dataChar(0, i - 1), 0);
            Check.due("stackNode(" + i + ")", x.stackNode(i), -1);
            Check.due("listEntry(" + (i - 1) + ")", x.listEntry(i - 1), -2);
            Check.due("serialChar(" + (i - 1) + ")", x.serialChar(i - 1), 0);
        }
    }

    /** All that the capacities of small() allow, and no more. */
    private static void capacities(MarkupTreeBuilder x) {
        Check.feed(x, "x".repeat(32));
        Check.due("feed beyond inputCap", x.feed('x'), false);
        x.parse();
        Check.due("length of the text", x.dataLength(1), 32);
        x.reset();
        Check.feed(x, "<br>".repeat(7));
        Check.due("parse() of the last node that fits", x.parse(), MarkupTreeBuilder.DONE);
        x.reset();
        Check.feed(x, "<br>".repeat(8));
        Check.due("parse() of the first that does not", x.parse(), MarkupTreeBuilder.FULL);
        x.reset();
        Check.feed(x, "<b abcdefghijkl>");
        Check.due("parse() of the longest attribute text", x.parse(), MarkupTreeBuilder.DONE);
        x.reset();
        Check.feed(x, "<b abcdefghijklm>");
        Check.due("parse() of one longer", x.parse(), MarkupTreeBuilder.FULL);
    }

    private static void from(String told, MarkupTreeBuilder x) {
        Check.sentence("reset() always returns the object to the start state");
        x.reset();
        inTheStartState(told, x);
        x.reset();
        inTheStartState(told + ", twice", x);
        Check.due("parse() of the empty input", x.parse(), MarkupTreeBuilder.DONE);
        Check.due("the object then", Check.everything(x), START.replace("status 0", "status 1"));
        x.reset();
        Check.sentence("The capacities are kept, and node numbers start again at 1.");
        capacities(x);
        x.reset();
        Check.feed(x, "<i>y<br>");
        x.parse();
        Check.due("the object with new nodes", Check.everything(x), "status 1 nodes 4\n 0 kind 0 parent -1 children [1] data 0 []\n"
            + " 1 kind 2 parent 0 children [2 3] data 0 []\n 2 kind 13 parent 1 children [] data 1 [y]\n"
            + " 3 kind 12 parent 1 children [] data 0 []\n stack 0 1\n list 1\n serialization <i>y<br></i>");
    }

    private static void fromEachStatus() {
        from("NOT_PARSED, nothing fed", small(""));
        from("NOT_PARSED", small("<b a>x"));
        from("NOT_PARSED, half a tag fed", small("x<b a=\"1"));
        from("NOT_PARSED, a full input", small("x".repeat(32)));
        from("DONE of an empty input", small("", MarkupTreeBuilder.DONE));
        from("DONE", small("<b a=\"1\">x<object><i></b>y<!--z", MarkupTreeBuilder.DONE));
        from("DONE with all nodes", small("<b><i><u><s><em><p><li>", MarkupTreeBuilder.DONE));
        from("DONE with all attribute text", small("<b abcdefghijkl>x", MarkupTreeBuilder.DONE));
        from("DONE with a dropped tag", small("<p>x<b a c d e f g h", MarkupTreeBuilder.DONE));
        from("FULL for nodes", small("<br>".repeat(8), MarkupTreeBuilder.FULL));
        from("FULL for attribute text", small("<b abcd>x<i abcdefgh>", MarkupTreeBuilder.FULL));
        from("FULL for the first tag", small("<b abcdefghijklm>", MarkupTreeBuilder.FULL));
        from("FULL in an adoption", small("<b><i><u><div>x<br></b>y", MarkupTreeBuilder.FULL));
        from("FULL in a reconstruction", small("<p><b><i><u><s></p>x", MarkupTreeBuilder.FULL));
        MarkupTreeBuilder fed = small("<br>".repeat(8), MarkupTreeBuilder.FULL);
        fed.feed('x');
        from("FULL, and a refused character", fed);
    }

    /** The input of before reset() is gone: what is fed is not added to it, and what it left behind is not read. */
    private static void emptyInput() {
        Check.sentence("empty input");
        MarkupTreeBuilder x = small("<b>abc");
        x.reset();
        Check.feed(x, "x");
        x.parse();
        Check.due("serialization of what came after reset() alone", Check.serial(x), "x");
        x = small("<b a=\"1\">xyz</b>");
        String[] beginnings = {"<", "<b", "<b a=", "<b a=\"", "<b a=\"1\""};
        for (String beginning : beginnings) {
            x.reset();
            Check.feed(x, beginning);
            x.parse();
            Check.due("serialization of " + beginning, Check.serial(x), beginning.equals("<") ? "&lt;" : "");
        }
    }

    /** Every capacity is kept, not only the least ones. */
    private static void greatestCapacities() {
        Check.sentence("The capacities are kept, and node numbers start again at 1.");
        MarkupTreeBuilder x = Check.large();
        for (int i = 0; i < 3; i++) {
            x.reset();
            Check.feed(x, "x".repeat(256));
            Check.due("feed beyond inputCap", x.feed('x'), false);
            x.reset();
            Check.feed(x, "<br>".repeat(63));
            Check.due("parse() of the last node that fits", x.parse(), MarkupTreeBuilder.DONE);
            x.reset();
            Check.feed(x, "<br>".repeat(64));
            Check.due("parse() of the first that does not", x.parse(), MarkupTreeBuilder.FULL);
            x.reset();
            Check.feed(x, Check.tagWithText("b", 256));
            Check.due("parse() of the longest attribute text", x.parse(), MarkupTreeBuilder.DONE);
            x.reset();
            Check.feed(x, Check.tagWithText("b", 257));
            Check.due("parse() of one longer", x.parse(), MarkupTreeBuilder.FULL);
        }
    }

    /** Whatever the first parse left behind, the second one does not find it. */
    private static void oneAfterAnother() {
        Check.sentence("reset() always returns the object to the start state: empty input, tree = ROOT only, stack [0], empty list");
        String[] inputs = {"", "x", "x".repeat(256), "<br>".repeat(64), "<br><br><br><br>", "x<b><br></b><br>", "<b>x<i>",
            "<br><br><b></b>y", "<b><i><u><s>", "<br><br><br><b><p><b><b><b></p></b>", "<b><b><b><b></b></b></b></b>",
            "<object><object><b>", "<b a=\"1\">1<p>2</b>3<object>4<i c>5<!--6", "<b a=\"2\">".repeat(4),
            "<p><b><i><u></p>x<!--y-->z", "<b><i><u><em><s><div>x</b>y", "<b>" + "<div>".repeat(9) + "x</b>y",
            "<ul><li>1<li>2</ul>3", "<b abcdefghijklm=\"" + "v".repeat(230) + "\">", "<b" + " a".repeat(120) + ">",
            "<b a c d e f g h><i a c d e f g h>x</i>", "&lt;&amp;<!--z", "</p></p></br></zz>", "<b><p>1<p>2<p>3</b>4"};
        MarkupTreeBuilder x = Check.large();
        for (String first : inputs) {
            for (String second : inputs) {
                x.reset();
                Check.feed(x, first);
                x.parse();
                x.reset();
                Check.feed(x, second);
                x.parse();
                MarkupTreeBuilder fresh = Check.feed(Check.large(), second);
                fresh.parse();
                Check.due(second + " after " + first, Check.everything(x), Check.everything(fresh));
            }
        }
    }

    private static void veryOften() {
        Check.sentence("reset() always returns the object to the start state");
        MarkupTreeBuilder x = small("<b a>x");
        for (int i = 0; i < 2000; i++) {
            x.reset();
            Check.feed(x, "<b a>x");
            Check.due("parse() number " + i, x.parse(), MarkupTreeBuilder.DONE);
        }
        Check.due("serialization after them", Check.serial(x), "<b a=\"\">x</b>");
    }

    public static void main(String[] args) {
        fromEachStatus();
        emptyInput();
        greatestCapacities();
        oneAfterAnother();
        veryOften();
        Check.end();
    }
}
