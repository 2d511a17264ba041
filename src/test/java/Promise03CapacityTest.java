/** Promise 3, capacity: where the parse stops with FULL, and what is kept. */
public final class Promise03CapacityTest {
    private static final String SIX = "<br>".repeat(6);
    private static final String SEVEN = "<br>".repeat(7);

    private static MarkupTreeBuilder stops(String markup, String serialization, String stack, String list) {
        MarkupTreeBuilder x = Check.full(markup, 8, 16);
        Check.due("serialization of " + markup, Check.serial(x), serialization);
        Check.due("stack after " + markup, Check.stack(x), stack);
        Check.due("list after " + markup, Check.list(x), list);
        return x;
    }

    private static void done(String markup, int nodeCap, int attrCap) {
        MarkupTreeBuilder x = Check.feed(new MarkupTreeBuilder(256, nodeCap, attrCap), markup);
        Check.due("parse() of " + markup, x.parse(), MarkupTreeBuilder.DONE);
    }

    private static void lastRoomIsGiven() {
        done(SEVEN, 8, 16);
        done(SIX + "text goes on without a node", 8, 16);
        done(SEVEN + "</b></div></li><x></x><b", 8, 16);
        done("<p>" + SIX + "</p>", 8, 16);
    }

    private static void nodes() {
        stops(SEVEN + "x", SEVEN, "0", "");
        stops(SEVEN + "<!--x-->", SEVEN, "0", "");
        stops(SEVEN + "<b>", SEVEN, "0", "");
        stops(SEVEN + "<span>", SEVEN, "0", "");
        stops(SEVEN + "<object>", SEVEN, "0", "");
        stops(SEVEN + "</p>x", SEVEN, "0", "");
        stops(SEVEN + "</br>", SEVEN, "0", "");
        stops("<b>" + SIX + "<br>", "<b>" + SIX + "</b>", "0 1", "1");
        stops("<b>" + SIX + "</p>", "<b>" + SIX + "</b>", "0 1", "1");
        stops("<p>" + SIX + "<div>", "<p>" + SIX + "</p>", "0", "");
        stops("<li>" + SIX + "<li>", "<li>" + SIX + "</li>", "0", "");
        MarkupTreeBuilder x = stops(SIX + "a<br>b", SIX + "a", "0", "");
        Check.due("nodeCount() after FULL", x.nodeCount(), 8);
    }

    private static void halfAReconstruction() {
        stops("<p><b><i><u></p>x", "<p><b><i><u></u></i></b></p><b><i><u></u></i></b>", "0 5 6 7", "5 6 7");
        stops("<p><b><i><u><s></p>x", "<p><b><i><u><s></s></u></i></b></p><b><i></i></b>", "0 6 7", "6 7 4 5");
        stops("<p><b><i><u><s></p><b>", "<p><b><i><u><s></s></u></i></b></p><b><i></i></b>", "0 6 7", "6 7 4 5");
    }

    private static void halfAnAdoption() {
        MarkupTreeBuilder x = stops("<b><i><u><div>x<br></b>", "<b><i><u></u></i></b>", "0 1 2 7 4", "1 2 7");
        Check.due("parent of a clone that was given none", x.nodeParent(7), -1);
        Check.due("its children", Check.children(x, 7), "4");
        Check.due("parent of the block", x.nodeParent(4), 7);
        Check.due("children that the block left", Check.children(x, 3), "");
        stops("<b><i><u><div>x</b>", "<b><i><u></u></i></b><i><u><div>x</div></u></i>", "0 1 7 6 4", "1 7 6");
        stops("<b><i><div><div>x</b>", "<b><i></i></b><i><div><b></b><div>x</div></div></i>", "0 6 3 7 4", "6 7");
        stops("<b><span><i><u><em><s><div></b>",
            "<b><span><i><u><em><s><div></div></s></em></u></i></span></b>", "0 1 2 3 4 5 6 7", "1 3 4 5 6");
        stops("<b><i><span><div>x<br><br></b>",
            "<b><i><span><div>x<br><br></div></span></i></b>", "0 1 2 4", "1 2");
    }

    private static void attributeText() {
        done("<b abcdefghijkl>", 8, 16);
        Check.due("nodes of too long a text", Check.full("<b abcdefghijklm>", 8, 16).nodeCount(), 1);
        done("<b a=\"12345678901\">", 8, 16);
        Check.full("<b a=\"123456789012\">", 8, 16);
        done("<b abcd><br abcd><i>", 8, 16);
        MarkupTreeBuilder x = Check.full("<b abcd><br abcd><i a>x", 8, 16);
        Check.due("what is kept", Check.serial(x), "<b abcd=\"\"><br abcd=\"\"></b>");
        Check.full("<b a c d e>", 8, 16);
        done("<b a c d>", 8, 16);
    }

    private static void attributeTextIsTestedBeforeTheTagIsHandled() {
        stops("<p>x<p abcdefghijklm>", "<p>x</p>", "0 1", "");
        stops("<li>x<li abcdefghijklm>", "<li>x</li>", "0 1", "");
        stops("<p><b></p><span abcdefghijklm>", "<p><b></b></p>", "0", "2");
    }

    private static void whatTakesNoRoom() {
        String longName = "abcdefghijklmnopqrstuvwxyz";
        done("<x " + longName + "></b " + longName + "></br " + longName + ">", 8, 16);
        done("<b " + longName, 8, 16);
        done("<b " + longName + "=\"", 8, 16);
        done("<b abcdefghijkl abcdefghijkl abcdefghijkl=\"" + longName + "\">", 8, 16);
        MarkupTreeBuilder x = Check.feed(new MarkupTreeBuilder(256, 64, 16), "<p><b abcdefghijkl><p>x<p>y</b>z");
        Check.due("parse() with clones", x.parse(), MarkupTreeBuilder.DONE);
        Check.due("text of a clone", Check.data(x, 4), " abcdefghijkl=\"\"");
        Check.due("text of a clone's clone", Check.data(x, 7), " abcdefghijkl=\"\"");
        x = Check.feed(new MarkupTreeBuilder(256, 64, 16), "<b abcdefghijkl><p>x</b>y");
        Check.due("parse() with an adoption", x.parse(), MarkupTreeBuilder.DONE);
        Check.due("text of the adopting node", Check.data(x, 4), " abcdefghijkl=\"\"");
        done("<!--" + longName + "-->" + longName, 8, 16);
    }

    public static void main(String[] args) {
        lastRoomIsGiven();
        nodes();
        halfAReconstruction();
        halfAnAdoption();
        attributeText();
        attributeTextIsTestedBeforeTheTagIsHandled();
        whatTakesNoRoom();
        Check.end();
    }
}
