/**
 * 'Terms', 'Nodes and capacity': both ways in which the parse stops with FULL, at the last that fits and at the first that
 * does not, in each of the steps that create a node.
 */
public final class Boundary03CapacityTest {
    private static final int DONE = MarkupTreeBuilder.DONE;
    private static final int FULL = MarkupTreeBuilder.FULL;
    private static final String[] NAMES = {"b", "i", "u", "em", "s", "span", "div", "p", "ul", "li", "object", "br"};
    /** With this as an attribute's name the attribute text is 16 long, the least attrCap. */
    private static final String FITS = " abcdefghijkl";
    private static final String TOO_LONG = " abcdefghijklm";

    /** Nodes that leave the stack and the list as they are, but that make a reconstruction. */
    private static String breaks(int count) {
        return "<br>".repeat(count);
    }

    /** Nodes that leave the stack and the list as they are, and make none. */
    private static String comments(int count) {
        return "<!---->".repeat(count);
    }

    /** With 8 nodes and 16 characters of attribute text. */
    private static MarkupTreeBuilder ends(String markup, int status, String serialization, String stack, String list) {
        return Check.ends(markup, 8, 16, status, serialization, stack, list);
    }

    private static void mustBeCreated() {
        Check.sentence("if a node must be created while nodeCount equals nodeCap");
        int[] caps = {8, 9, 40, 63};
        for (int cap : caps) {
            String most = breaks(cap - 2);
            String all = breaks(cap - 1);
            String last = Integer.toString(cap - 1);
            for (String name : NAMES) {
                String tag = "<" + name + ">";
                boolean leaf = name.equals("br");
                String list = "b i u em s".contains(name) && !leaf ? last : name.equals("object") ? "|" : "";
                Check.ends(most + tag, cap, 16, DONE, most + tag + (leaf ? "" : "</" + name + ">"), leaf ? "0" : "0 " + last, list);
                Check.ends(all + tag, cap, 16, FULL, all, "0", "");
            }
            Check.ends(most + "x", cap, 16, DONE, most + "x", "0", "");
            Check.ends(all + "x", cap, 16, FULL, all, "0", "");
            Check.ends(most + "<!--c", cap, 16, DONE, most + "<!--c-->", "0", "");
            Check.ends(all + "<!--", cap, 16, FULL, all, "0", "");
            Check.ends(most + "</p>", cap, 16, DONE, most + "<p></p>", "0", "");
            Check.ends(all + "</p>", cap, 16, FULL, all, "0", "");
            Check.ends(most + "</br>", cap, 16, DONE, most + "<br>", "0", "");
        }
        Check.ends(breaks(62) + "</br>", 63, 16, FULL, breaks(62), "0", "");
        Check.ends(breaks(63), 64, 16, DONE, breaks(63), "0", "");
        Check.ends(breaks(63) + "<br>", 64, 16, FULL, breaks(63), "0", "");
        Check.ends(breaks(63) + "x", 64, 16, FULL, breaks(63), "0", "");
    }

    private static void whatNeedsNoNode() {
        Check.sentence("if a node must be created while nodeCount equals nodeCap");
        ends(breaks(6) + "x" + "y".repeat(200), DONE, breaks(6) + "x" + "y".repeat(200), "0", "");
        ends(breaks(7) + "</div></ul></object></li></span></b></i></u></em></s><zz></zz>", DONE, breaks(7), "0", "");
        ends(breaks(7) + "<b", DONE, breaks(7), "0", "");
        ends(breaks(7) + "<b a=\"", DONE, breaks(7), "0", "");
        ends(breaks(7) + "</p", DONE, breaks(7), "0", "");
        ends("<p>" + breaks(6) + "</p>", DONE, "<p>" + breaks(6) + "</p>", "0", "");
        ends("<b>" + breaks(6) + "</b>", DONE, "<b>" + breaks(6) + "</b>", "0", "");
        ends("<object>" + breaks(6) + "</object>", DONE, "<object>" + breaks(6) + "</object>", "0", "");
        ends("<p><b>" + breaks(5) + "</p></b>", DONE, "<p><b>" + breaks(5) + "</b></p>", "0", "");
    }

    private static void nothingIsHandledAfterIt() {
        Check.sentence("The parse stops where it is, with everything done so far kept and status FULL");
        MarkupTreeBuilder x = ends("<b>" + breaks(5) + "x<i>y</b>z</p>", FULL, "<b>" + breaks(5) + "x</b>", "0 1", "1");
        Check.due("nodeCount()", x.nodeCount(), 8);
        Check.due("data of the last node", Check.data(x, 7), "x");
        ends(breaks(5) + "x<!---->y", FULL, breaks(5) + "x<!---->", "0", "");
        ends("<object><b>" + breaks(5) + "<i></b></object>", FULL, "<object><b>" + breaks(5) + "</b></object>", "0 1 2", "| 2");
        ends("<p>" + breaks(6) + "x</p>", FULL, "<p>" + breaks(6) + "</p>", "0 1", "");
        ends("<b" + TOO_LONG + ">x</p>", FULL, "", "0", "");
    }

    private static void whatTheBlocksClosedStaysClosed() {
        Check.sentence("DIV P UL: if P is in scope, close P. Then insert. (with everything done so far kept)");
        String[] names = {"div", "p", "ul", "li"};
        for (String name : names) {
            String tag = "<" + name + ">";
            String whole = tag + "</" + name + ">";
            ends("<p>" + breaks(5) + tag, DONE, "<p>" + breaks(5) + "</p>" + whole, "0 7", "");
            ends("<p>" + breaks(6) + tag, FULL, "<p>" + breaks(6) + "</p>", "0", "");
            ends("<p><b>" + breaks(4) + tag, DONE, "<p><b>" + breaks(4) + "</b></p>" + whole, "0 7", "2");
            ends("<p><b>" + breaks(5) + tag, FULL, "<p><b>" + breaks(5) + "</b></p>", "0", "2");
        }
        Check.sentence("At an entry of kind LI: implied end tags except LI, pop until LI (with everything done so far kept)");
        ends("<li>" + breaks(5) + "<li>", DONE, "<li>" + breaks(5) + "</li><li></li>", "0 7", "");
        ends("<li>" + breaks(6) + "<li>", FULL, "<li>" + breaks(6) + "</li>", "0", "");
        ends("<li><p>" + breaks(4) + "<li>", DONE, "<li><p>" + breaks(4) + "</p></li><li></li>", "0 7", "");
        ends("<li><p>" + breaks(5) + "<li>", FULL, "<li><p>" + breaks(5) + "</p></li>", "0", "");
        ends("<ul><p>" + breaks(4) + "<li>", DONE, "<ul><p>" + breaks(4) + "</p><li></li></ul>", "0 1 7", "");
        ends("<ul><p>" + breaks(5) + "<li>", FULL, "<ul><p>" + breaks(5) + "</p></ul>", "0 1", "");
    }

    private static void whatFollowsTheInsertIsNotDone() {
        Check.sentence("INSERT: create a node (stops where it is)");
        ends("<b><b><b>" + breaks(3) + "<b>", DONE, "<b><b><b>" + breaks(3) + "<b></b></b></b></b>", "0 1 2 3 7", "2 3 7");
        ends("<b><b><b>" + breaks(4) + "<b>", FULL, "<b><b><b>" + breaks(4) + "</b></b></b>", "0 1 2 3", "1 2 3");
        ends("<b><object>" + breaks(4) + "<object>", DONE,
            "<b><object>" + breaks(4) + "<object></object></object></b>", "0 1 2 7", "1 | |");
        ends("<b><object>" + breaks(5) + "<object>", FULL, "<b><object>" + breaks(5) + "</object></b>", "0 1 2", "1 |");
        ends("<span>" + breaks(5) + "<br>", DONE, "<span>" + breaks(6) + "</span>", "0 1", "");
        ends("<span>" + breaks(6) + "<br>", FULL, "<span>" + breaks(6) + "</span>", "0 1", "");
        ends("<span>" + breaks(6) + "</br>", FULL, "<span>" + breaks(6) + "</span>", "0 1", "");
        Check.sentence("P: if P is not in scope, insert (P, empty attribute text). Then close P. (stops where it is)");
        ends("<div>" + breaks(5) + "</p>", DONE, "<div>" + breaks(5) + "<p></p></div>", "0 1", "");
        ends("<div>" + breaks(6) + "</p>", FULL, "<div>" + breaks(6) + "</div>", "0 1", "");
        ends("<p><object>" + breaks(4) + "</p>", DONE, "<p><object>" + breaks(4) + "<p></p></object></p>", "0 1 2", "|");
        ends("<p><object>" + breaks(5) + "</p>", FULL, "<p><object>" + breaks(5) + "</object></p>", "0 1 2", "|");
    }

    /** What makes a reconstruction, what it then inserts, the stack and the list with b as the node made anew and n after it. */
    private static final String[][] RECONSTRUCTORS = {
        {"x", "x", "0 b", "b"}, {"&lt;", "&lt;", "0 b", "b"}, {"<", "&lt;", "0 b", "b"},
        {"<i>", "<i></i>", "0 b n", "b n"}, {"<s>", "<s></s>", "0 b n", "b n"}, {"<span>", "<span></span>", "0 b n", "b"},
        {"<br>", "<br>", "0 b", "b"}, {"</br>", "<br>", "0 b", "b"}, {"<object>", "<object></object>", "0 b n", "b |"}};

    private static void reconstruct() {
        Check.sentence("RECONSTRUCT: for each position p from i to the last in order: create a node (stops where it is)");
        for (String[] row : RECONSTRUCTORS) {
            String one = "<p><b></p>";
            String closed = "<p><b></b></p>";
            ends(one + comments(3) + row[0], DONE, closed + comments(3) + "<b>" + row[1] + "</b>",
                row[2].replace("b", "6").replace("n", "7"), row[3].replace("b", "6").replace("n", "7"));
            ends(one + comments(4) + row[0], FULL, closed + comments(4) + "<b></b>", "0 7", "7");
            ends(one + comments(5) + row[0], FULL, closed + comments(5), "0", "2");
            String two = "<p><b><u></p>";
            closed = "<p><b><u></u></b></p>";
            ends(two + comments(1) + row[0], DONE, closed + comments(1) + "<b><u>" + row[1] + "</u></b>",
                row[2].replace("b", "5 6").replace("n", "7"), row[3].replace("b", "5 6").replace("n", "7"));
            ends(two + comments(2) + row[0], FULL, closed + comments(2) + "<b><u></u></b>", "0 6 7", "6 7");
            ends(two + comments(3) + row[0], FULL, closed + comments(3) + "<b></b>", "0 7", "7 3");
            ends(two + comments(4) + row[0], FULL, closed + comments(4), "0", "2 3");
        }
    }

    private static void adoptionStopsInA8() {
        Check.sentence("A8: append LAST to CA. Create a node N (stops where it is)");
        ends("<b><p>" + breaks(4) + "</b>", DONE, "<b></b><p><b>" + breaks(4) + "</b></p>", "0 2", "");
        MarkupTreeBuilder x = ends("<b><p>" + breaks(5) + "</b>", FULL, "<b></b><p>" + breaks(5) + "</p>", "0 1 2", "1");
        Check.due("parent of the block", x.nodeParent(2), 0);
        Check.due("children that it keeps", Check.children(x, 2), "3 4 5 6 7");
        ends("<div><b>1<p>2</b>", DONE, "<div><b>1</b><p><b>2</b></p></div>", "0 1 4", "");
        ends("<div><b>1<p>2" + breaks(2) + "</b>", FULL, "<div><b>1</b><p>2" + breaks(2) + "</p></div>", "0 1 2 4", "2");
    }

    private static void adoptionStopsInA7() {
        Check.sentence("A7: create a node C with NODE's kind and attribute text (stops where it is)");
        ends("<b><i><div>" + breaks(2) + "</b>", DONE, "<b><i></i></b><i><div><b>" + breaks(2) + "</b></div></i>", "0 6 3", "6");
        ends("<b><i><div>" + breaks(3) + "</b>", FULL, "<b><i></i></b><i><div>" + breaks(3) + "</div></i>", "0 1 7 3", "1 7");
        ends("<b><i><div>" + breaks(4) + "</b>", FULL, "<b><i><div>" + breaks(4) + "</div></i></b>", "0 1 2 3", "1 2");
        ends("<b><i><u><div></b>", DONE, "<b><i><u></u></i></b><i><u><div><b></b></div></u></i>", "0 6 5 4", "6 5");
        ends("<b><i><u><div>" + breaks(1) + "</b>", FULL, "<b><i><u></u></i></b><i><u><div><br></div></u></i>", "0 1 7 6 4", "1 7 6");
        MarkupTreeBuilder x = ends("<b><i><u><div>" + breaks(2) + "</b>", FULL, "<b><i><u></u></i></b>", "0 1 2 7 4", "1 2 7");
        Check.due("parent of the clone", x.nodeParent(7), -1);
        Check.due("kind of the clone", x.nodeKind(7), MarkupTreeBuilder.U);
        Check.due("children of the clone", Check.children(x, 7), "4");
        Check.due("parent of the block", x.nodeParent(4), 7);
        Check.due("children that the block keeps", Check.children(x, 4), "5 6");
        ends("<b><i><u><div>" + breaks(3) + "</b>", FULL, "<b><i><u><div>" + breaks(3) + "</div></u></i></b>", "0 1 2 3 4", "1 2 3");
    }

    private static void whatA7RemovedStaysRemoved() {
        Check.sentence("A7: If NODE is not in the list: remove it from the stack (with everything done so far kept)");
        ends("<b><i><span><div>x</b>", DONE, "<b><i><span></span></i></b><i><div><b>x</b></div></i>", "0 6 4", "6");
        ends("<b><i><span><div>x" + breaks(1) + "</b>", FULL,
            "<b><i><span></span></i></b><i><div>x<br></div></i>", "0 1 7 4", "1 7");
        ends("<b><i><span><div>x" + breaks(2) + "</b>", FULL,
            "<b><i><span><div>x" + breaks(2) + "</div></span></i></b>", "0 1 2 4", "1 2");
        ends("<b><span><span><div>x" + breaks(2) + "</b>", FULL,
            "<b><span><span></span></span></b><div>x" + breaks(2) + "</div>", "0 1 4", "1");
        Check.sentence("A7: If counter > 3 and NODE is in the list: remove its entry. (with everything done so far kept)");
        String markup = "<b><i><u><em><s><div></b>";
        String left = "<b><i><u><em><s></s></em></u></i></b>";
        Check.ends(markup, 11, 16, DONE, left + "<u><em><s><div><b></b></div></s></em></u>", "0 9 8 7 6", "9 8 7");
        Check.ends(markup, 10, 16, FULL, left + "<u><em><s><div></div></s></em></u>", "0 1 9 8 7 6", "1 9 8 7");
        MarkupTreeBuilder x = Check.ends(markup, 9, 16, FULL, left, "0 1 2 3 8 7 6", "1 2 3 8 7");
        Check.due("parent of the second clone", x.nodeParent(8), -1);
        Check.due("parent of the first clone", x.nodeParent(7), 8);
        x = Check.ends(markup, 8, 16, FULL, left, "0 1 2 3 4 7 6", "1 2 3 4 7");
        Check.due("parent of the first clone", x.nodeParent(7), -1);
    }

    private static void adoptionStopsInALaterRound() {
        Check.sentence("A2: run outer rounds A3..A8, at most 8 of them (stops where it is)");
        String markup = "<b>" + "<div>".repeat(8) + "</b>";
        for (int rounds = 0; rounds < 8; rounds++) {
            String serialization = "<b></b><div>".repeat(rounds) + "<b></b>" + "<div>".repeat(8 - rounds) + "</div>".repeat(8);
            StringBuilder stack = new StringBuilder("0");
            for (int i = 1; i <= 8; i++) {
                stack.append(i == rounds + 1 ? " " + (rounds == 0 ? 1 : 9 + rounds) : "").append(' ').append(i + 1);
            }
            Check.ends(markup, 10 + rounds, 16, FULL, serialization, stack.toString(), rounds == 0 ? "1" : "" + (9 + rounds));
        }
        Check.ends(markup, 18, 16, DONE, "<b></b><div>".repeat(8) + "<b></b>" + "</div>".repeat(8), "0 2 3 4 5 6 7 8 9 17", "17");
    }

    private static void attributeTextOfEachKind() {
        Check.sentence("if a complete start tag of a known name has attribute text longer than attrCap");
        for (String name : NAMES) {
            MarkupTreeBuilder x = Check.feed(new MarkupTreeBuilder(256, 8, 16), "<" + name + FITS + ">");
            Check.due("parse() of the longest that fits in " + name, x.parse(), DONE);
            Check.due("its attribute text", Check.data(x, 1), FITS + "=\"\"");
            x = Check.feed(new MarkupTreeBuilder(256, 8, 16), "x<" + name + TOO_LONG + ">y");
            Check.due("parse() of the shortest that does not in " + name, x.parse(), FULL);
            Check.due("what is kept", Check.serial(x), "x");
        }
        ends("<b a=\"12345678901\">", DONE, "<b a=\"12345678901\"></b>", "0 1", "1");
        ends("<b a=\"123456789012\">", FULL, "", "0", "");
        ends("<b a c d>", DONE, "<b a=\"\" c=\"\" d=\"\"></b>", "0 1", "1");
        ends("<b a c de>", DONE, "<b a=\"\" c=\"\" de=\"\"></b>", "0 1", "1");
        ends("<b a c def>", FULL, "", "0", "");
        ends("<b a c d e>", FULL, "", "0", "");
        String most = "<b a=\"" + "v".repeat(248) + "\">";
        Check.ends(most, 8, 253, DONE, most + "</b>", "0 1", "1");
        Check.ends(most, 8, 252, FULL, "", "0", "");
    }

    private static void minusTheTotalStored() {
        Check.sentence("attrCap minus the total attribute text stored by earlier start tags of this parse");
        ends("<b abcdefg><br a>", DONE, "<b abcdefg=\"\"><br a=\"\"></b>", "0 1", "1");
        ends("<b abcdefg><br aa>", FULL, "<b abcdefg=\"\"></b>", "0 1", "1");
        ends("<b abcdefgh><br a>", FULL, "<b abcdefgh=\"\"></b>", "0 1", "1");
        ends("<br a><br a><br aa>", DONE, "<br a=\"\"><br a=\"\"><br aa=\"\">", "0", "");
        ends("<br a><br a><br aaa>", FULL, "<br a=\"\"><br a=\"\">", "0", "");
        ends("<br" + FITS + "><br><br><br>", DONE, "<br" + FITS + "=\"\"><br><br><br>", "0", "");
        ends("<br" + FITS + "><br><br a>", FULL, "<br" + FITS + "=\"\"><br>", "0", "");
        int[] caps = {16, 17, 100, 255, 256};
        for (int cap : caps) {
            String[] filling = {Check.tagWithText("br", cap - 5) + "<i a>", Check.tagWithText("br", cap) + "<i>"};
            String[] overflowing = {Check.tagWithText("br", cap - 4) + "<i a>", Check.tagWithText("br", cap) + "<i a>"};
            for (String markup : filling) {
                MarkupTreeBuilder x = Check.feed(new MarkupTreeBuilder(256, 8, cap), markup);
                Check.due("parse() of " + markup + " with attrCap " + cap, x.parse(), DONE);
                Check.due("nodeCount() of " + markup, x.nodeCount(), 3);
            }
            for (String markup : overflowing) {
                MarkupTreeBuilder x = Check.feed(new MarkupTreeBuilder(256, 8, cap), markup);
                Check.due("parse() of " + markup + " with attrCap " + cap, x.parse(), FULL);
                Check.due("nodeCount() of " + markup, x.nodeCount(), 2);
            }
        }
        MarkupTreeBuilder x = new MarkupTreeBuilder(256, 8, 16);
        for (int i = 0; i < 3; i++) {
            Check.feed(x, "<br" + FITS + ">");
            Check.due("parse() of this parse's text alone", x.parse(), DONE);
            x.reset();
        }
    }

    private static void whatStoresNone() {
        Check.sentence("a complete start tag of a known name");
        String longOne = "abcdefghijklmnopqrstuvwxyz";
        ends("<zz " + longOne + "><b" + FITS + ">", DONE, "<b" + FITS + "=\"\"></b>", "0 1", "1");
        ends("</b " + longOne + "></br " + longOne + "></p " + longOne + "><b" + FITS + ">", DONE,
            "<br><p></p><b" + FITS + "=\"\"></b>", "0 3", "3");
        ends("<b" + FITS + ">x<b " + longOne, DONE, "<b" + FITS + "=\"\">x</b>", "0 1", "1");
        ends("<b" + FITS + ">x<b a=\"" + longOne + ">", DONE, "<b" + FITS + "=\"\">x</b>", "0 1", "1");
        ends("<b" + FITS + FITS + FITS + "=\"" + longOne + "\">", DONE, "<b" + FITS + "=\"\"></b>", "0 1", "1");
        ends("<!--" + longOne + "-->" + longOne + "<b" + FITS + ">", DONE,
            "<!--" + longOne + "-->" + longOne + "<b" + FITS + "=\"\"></b>", "0 3", "3");
        ends("</b" + FITS + "><br" + FITS + "></br a>", DONE, "<br" + FITS + "=\"\"><br>", "0", "");
    }

    private static void beforeTheTagIsHandled() {
        Check.sentence("This test is made before the tag is handled.");
        String[] blocks = {"div", "p", "ul", "li"};
        for (String name : blocks) {
            ends("<p>x<" + name + TOO_LONG + ">", FULL, "<p>x</p>", "0 1", "");
            // There is room for no node either: the attribute text is looked at first.
            ends("<p>" + breaks(6) + "<" + name + TOO_LONG + ">", FULL, "<p>" + breaks(6) + "</p>", "0 1", "");
        }
        ends("<li>x<li" + TOO_LONG + ">", FULL, "<li>x</li>", "0 1", "");
        ends("<ul><p>x<li" + TOO_LONG + ">", FULL, "<ul><p>x</p></ul>", "0 1 2", "");
        String[] reconstructors = {"b", "i", "u", "em", "s", "span", "br", "object"};
        for (String name : reconstructors) {
            ends("<p><b></p><" + name + TOO_LONG + ">", FULL, "<p><b></b></p>", "0", "2");
        }
        ends("<b><b><b><b" + TOO_LONG + ">", FULL, "<b><b><b></b></b></b>", "0 1 2 3", "1 2 3");
    }

    private static void clonesTakeNoRoom() {
        Check.sentence("A clone has the data of the node it is made from, and that text takes no room a second time.");
        MarkupTreeBuilder x = ends("<p><b a></p>x<i abcdefg>", DONE,
            "<p><b a=\"\"></b></p><b a=\"\">x<i abcdefg=\"\"></i></b>", "0 3 5", "3 5");
        Check.due("data of the node made anew", Check.data(x, 3), " a=\"\"");
        ends("<p><b a></p>x<i abcdefgh>", FULL, "<p><b a=\"\"></b></p><b a=\"\">x</b>", "0 3", "3");
        x = ends("<b a><i c><p></b><u ef>", DONE,
            "<b a=\"\"><i c=\"\"></i></b><i c=\"\"><p><b a=\"\"></b><u ef=\"\"></u></p></i>", "0 4 3 6", "4 6");
        Check.due("data of the clone of A7", Check.data(x, 4), " c=\"\"");
        Check.due("data of the node N of A8", Check.data(x, 5), " a=\"\"");
        ends("<b a><i c><p></b><u efg>", FULL,
            "<b a=\"\"><i c=\"\"></i></b><i c=\"\"><p><b a=\"\"></b></p></i>", "0 4 3", "4");
        x = ends("<b a><i c><u d=\"1\"><div>" + breaks(2) + "</b>", FULL,
            "<b a=\"\"><i c=\"\"><u d=\"1\"></u></i></b>", "0 1 2 7 4", "1 2 7");
        Check.due("data of a clone that was given no parent", Check.data(x, 7), " d=\"1\"");
        x = Check.parsed("<b" + FITS + ">" + "<p>x</p>".repeat(2) + "<div>".repeat(9) + "</b>y");
        for (int n = 1; n < x.nodeCount(); n++) {
            Check.due("data of node " + n, Check.data(x, n).length() == 16, x.nodeKind(n) == MarkupTreeBuilder.B);
        }
    }

    private static void numbers() {
        Check.sentence("New nodes get the numbers 1, 2, ... in order of creation.");
        MarkupTreeBuilder x = Check.parsed("<br>".repeat(63));
        for (int n = 1; n < 64; n++) {
            Check.due("child " + (n - 1) + " of ROOT", x.nodeChild(0, n - 1), n);
        }
        x = Check.parsed("x<p><b></p>y<!---->");
        int[] kinds = {MarkupTreeBuilder.ROOT, MarkupTreeBuilder.TEXT, MarkupTreeBuilder.P, MarkupTreeBuilder.B, MarkupTreeBuilder.B,
            MarkupTreeBuilder.TEXT, MarkupTreeBuilder.COMMENT};
        for (int n = 0; n < kinds.length; n++) {
            Check.due("kind of node " + n, x.nodeKind(n), kinds[n]);
        }
    }

    public static void main(String[] args) {
        mustBeCreated();
        whatNeedsNoNode();
        nothingIsHandledAfterIt();
        whatTheBlocksClosedStaysClosed();
        whatFollowsTheInsertIsNotDone();
        reconstruct();
        adoptionStopsInA8();
        adoptionStopsInA7();
        whatA7RemovedStaysRemoved();
        adoptionStopsInALaterRound();
        attributeTextOfEachKind();
        minusTheTotalStored();
        whatStoresNone();
        beforeTheTagIsHandled();
        clonesTakeNoRoom();
        numbers();
        Check.end();
    }
}
