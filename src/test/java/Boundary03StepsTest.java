/** 'Terms', 'Stack, list and common steps': their boundary cases, a sentence of the document at a time. */
public final class Boundary03StepsTest {
    private static void initially() {
        Check.sentence("The STACK of open elements holds nodes from bottom to top, initially [0].");
        Check.leaves("", "", "0", "");
        Check.leaves("x", "x", "0", "");
        Check.sentence("The LIST of active formatting elements holds entries, each a node or a MARKER, initially empty.");
        Check.leaves("<span><div><br>", "<span><div><br></div></span>", "0 1 2", "");
        // No end tag takes ROOT off the stack, nor anything out of an empty list.
        String[] names = {"b", "i", "u", "em", "s", "span", "div", "ul", "li", "object", "zz"};
        for (String name : names) {
            String end = "</" + name + ">";
            Check.leaves(end + end + "x", "x", "0", "");
            Check.leaves("<" + name + ">" + end.repeat(5) + "x", name.equals("zz") ? "x" : "<" + name + ">" + end + "x", "0", "");
        }
        Check.leaves("</p></p>x", "<p></p><p></p>x", "0", "");
        Check.leaves("</br></br>x", "<br><br>x", "0", "");
    }

    private static void inScope() {
        Check.sentence("The answer is true at the first entry that matches the target.");
        Check.leaves("<p></p>x", "<p></p>x", "0", "");
        Check.leaves("<div><span><b><ul><li></div>", "<div><span><b><ul><li></li></ul></b></span></div>", "0", "3");
        Check.leaves("<object></object>x", "<object></object>x", "0", "");
        Check.leaves("<object><object></object>x", "<object><object></object>x</object>", "0 1", "|");
        Check.leaves("<p><object><p></p>x", "<p><object><p></p>x</object></p>", "0 1 2", "|");
        Check.sentence("It is false at the first non-matching entry of kind ROOT or OBJECT");
        Check.leaves("<div><object></div>x", "<div><object>x</object></div>", "0 1 2", "|");
        Check.leaves("<ul><object></ul>x", "<ul><object>x</object></ul>", "0 1 2", "|");
        Check.leaves("<li><object></li>x", "<li><object>x</object></li>", "0 1 2", "|");
        Check.leaves("<p><object></p>x", "<p><object><p></p>x</object></p>", "0 1 2", "|");
        Check.leaves("<div><object><span></div>x", "<div><object><span>x</span></object></div>", "0 1 2 3", "|");
        Check.leaves("<p><object><p>x<div>", "<p><object><p>x</p><div></div></object></p>", "0 1 2 5", "|");
        Check.leaves("<p><object><div><p>", "<p><object><div><p></p></div></object></p>", "0 1 2 3 4", "|");
        Check.sentence("(in LIST-ITEM scope, also of kind UL)");
        Check.leaves("<li><ul></li>x", "<li><ul>x</ul></li>", "0 1 2", "");
        Check.leaves("<li><ul><div></li>x", "<li><ul><div>x</div></ul></li>", "0 1 2 3", "");
        Check.leaves("<li><ul><li></li>x", "<li><ul><li></li>x</ul></li>", "0 1 2", "");
        Check.leaves("<li><div></li>x", "<li><div></div></li>x", "0", "");
        Check.leaves("<div><ul></div>x", "<div><ul></ul></div>x", "0", "");
        Check.leaves("<object><ul></object>x", "<object><ul></ul></object>x", "0", "");
    }

    private static void popUntil() {
        Check.sentence("POP UNTIL kind K: pop repeatedly, stopping right after a node of kind K has been popped.");
        Check.leaves("<div><div><div></div>x", "<div><div><div></div>x</div></div>", "0 1 2", "");
        Check.leaves("<ul><ul><span></ul>x", "<ul><ul><span></span></ul>x</ul>", "0 1", "");
        Check.leaves("<div><p><b></div>x", "<div><p><b></b></p></div><b>x</b>", "0 4", "4");
        Check.leaves("<ul><li><p></ul>x", "<ul><li><p></p></li></ul>x", "0", "");
        Check.sentence("CLOSE P: implied end tags except P; then pop until P.");
        Check.leaves("<p></p>x", "<p></p>x", "0", "");
        Check.leaves("<div><p><span><b><i></p>x", "<div><p><span><b><i></i></b></span></p><b><i>x</i></b></div>", "0 1 6 7", "6 7");
        Check.leaves("<p><p><p>", "<p></p><p></p><p></p>", "0 3", "");
    }

    private static void threeOrMore() {
        Check.sentence("If there are 3 or more, remove the earliest of them from the list.");
        Check.leaves("<b>", "<b></b>", "0 1", "1");
        Check.leaves("<b><b>", "<b><b></b></b>", "0 1 2", "1 2");
        Check.leaves("<b><b><b>", "<b><b><b></b></b></b>", "0 1 2 3", "1 2 3");
        Check.leaves("<b><b><b><b>", "<b><b><b><b></b></b></b></b>", "0 1 2 3 4", "2 3 4");
        Check.leaves("<b>".repeat(10), "<b>".repeat(10) + "</b>".repeat(10), "0 1 2 3 4 5 6 7 8 9 10", "8 9 10");
        Check.due("list with others before and between", Check.list(Check.parsed("<i><b><i><b><u><b><s><b>")), "1 3 4 5 6 7 8");
        Check.due("list of each kind three times", Check.list(Check.parsed("<b><i><u><em><s>".repeat(3))),
            "1 2 3 4 5 6 7 8 9 10 11 12 13 14 15");
        Check.due("list of each kind four times", Check.list(Check.parsed("<b><i><u><em><s>".repeat(4))),
            "6 7 8 9 10 11 12 13 14 15 16 17 18 19 20");
        // What was removed may come again, and a closed one counts no more.
        Check.due("list after one is closed", Check.list(Check.parsed("<b><b><b></b><b>")), "1 2 4");
        Check.due("list after three made anew", Check.list(Check.parsed("<p><b><b><b></p>x<b>")), "6 7 9");
        Check.due("list of three that are not open", Check.list(Check.parsed("<p><b><b><b></p>")), "2 3 4");
    }

    private static void kindAndAttributeText() {
        Check.sentence("count the nodes that have E's kind and the same attribute text");
        Check.due("list of other kinds", Check.list(Check.parsed("<b><b><b><i><u>")), "1 2 3 4 5");
        Check.due("list with and without", Check.list(Check.parsed("<b a><b a><b a><b>")), "1 2 3 4");
        Check.due("list without and with", Check.list(Check.parsed("<b><b><b><b a>")), "1 2 3 4");
        Check.due("list of one text's beginnings", Check.list(Check.parsed("<b a><b a><b a><b ab>")), "1 2 3 4");
        Check.due("list of other names", Check.list(Check.parsed("<b a><b a><b a><b c>")), "1 2 3 4");
        Check.due("list of other values", Check.list(Check.parsed("<b a=\"v\"><b a=\"v\"><b a=\"v\"><b a=\"V\">")), "1 2 3 4");
        Check.due("list of another order", Check.list(Check.parsed("<b a c><b a c><b a c><b c a>")), "1 2 3 4");
        Check.due("list of one text written otherwise",
            Check.list(Check.parsed("<b a c=\"\"><b A=\"\" c><b/a=/c=><b a a=\"2\" c>")), "2 3 4");
        Check.due("list of one value", Check.list(Check.parsed("<b a=\"v\"><b a=\"v\"><b A=\"v\"><b a=\"v\">")), "2 3 4");
        Check.due("list with two other texts between",
            Check.list(Check.parsed("<b><b a><b><b a><b><b a><b><b a>")), "3 4 5 6 7 8");
        Check.sentence("among the entries after the last MARKER (all entries if there is none)");
        Check.due("list of two and two", Check.list(Check.parsed("<b><b><object><b><b>")), "1 2 | 4 5");
        Check.due("list of three and one", Check.list(Check.parsed("<b><b><b><object><b>")), "1 2 3 | 5");
        Check.due("list of three and four", Check.list(Check.parsed("<b><b><b><object><b><b><b><b>")), "1 2 3 | 6 7 8");
        Check.due("list of three, and one after the object", Check.list(Check.parsed("<b><b><b><object><b></object><b>")), "2 3 6");
        Check.due("list of two markers", Check.list(Check.parsed("<object><b><b><b><object><b><b><b><b>")), "| 2 3 4 | 7 8 9");
    }

    private static void reconstructStops() {
        Check.sentence("RECONSTRUCT: stop if the list is empty");
        Check.leaves("<p></p>x", "<p></p>x", "0", "");
        Check.leaves("<b></b>x<i>y", "<b></b>x<i>y</i>", "0 3", "3");
        Check.sentence("RECONSTRUCT: stop if its last entry is a MARKER");
        Check.leaves("<object>x", "<object>x</object>", "0 1", "|");
        Check.leaves("<b><object>x", "<b><object>x</object></b>", "0 1 2", "1 |");
        Check.leaves("<object><object><br>", "<object><object><br></object></object>", "0 1 2", "| |");
        Check.leaves("<object><b></b>x", "<object><b></b>x</object>", "0 1", "|");
        Check.sentence("RECONSTRUCT: stop if its last entry is a node on the stack");
        Check.leaves("<b>x", "<b>x</b>", "0 1", "1");
        Check.leaves("<b><div><p>x", "<b><div><p>x</p></div></b>", "0 1 2 3", "1");
        Check.leaves("<b><i><span>x", "<b><i><span>x</span></i></b>", "0 1 2 3", "1 2");
    }

    private static void reconstructBegins() {
        Check.sentence("While i > 0 and entry i-1 is neither a MARKER nor on the stack, decrease i by 1.");
        Check.leaves("<p><b></p>x", "<p><b></b></p><b>x</b>", "0 3", "3");
        Check.leaves("<p><b><i><u></p>x", "<p><b><i><u></u></i></b></p><b><i><u>x</u></i></b>", "0 5 6 7", "5 6 7");
        Check.leaves("<object><p><b><i></p>x", "<object><p><b><i></i></b></p><b><i>x</i></b></object>", "0 1 5 6", "| 5 6");
        Check.leaves("<b><object><p><i></p>x", "<b><object><p><i></i></p><i>x</i></object></b>", "0 1 2 5", "1 | 5");
        Check.leaves("<b><p><i><u></p>x", "<b><p><i><u></u></i></p><i><u>x</u></i></b>", "0 1 5 6", "1 5 6");
        Check.leaves("<b><i><p><u></p>x", "<b><i><p><u></u></p><u>x</u></i></b>", "0 1 2 5", "1 2 5");
        Check.sentence("for each position p from i to the last in order: create a node with entry p's kind and attribute text, "
            + "append it to the current node, push it, and put it in place of entry p");
        MarkupTreeBuilder x = Check.prints("<p><b a=\"1\"><i c></p><span>",
            "<p><b a=\"1\"><i c=\"\"></i></b></p><b a=\"1\"><i c=\"\"><span></span></i></b>");
        Check.due("data of the first", Check.data(x, 4), " a=\"1\"");
        Check.due("data of the last", Check.data(x, 5), " c=\"\"");
        Check.due("stack", Check.stack(x), "0 4 5 6");
        Check.due("list", Check.list(x), "4 5");
        // Made anew twice: the second ones are made from the first.
        Check.leaves("<p><b a></p><p>x</p>y", "<p><b a=\"\"></b></p><p><b a=\"\">x</b></p><b a=\"\">y</b>", "0 6", "6");
    }

    private static void text() {
        Check.sentence("if the current node's last child is a TEXT node, add the char at its end; "
            + "otherwise create a TEXT node holding the char and append it to the current node");
        Check.due("nodes of one text", Check.parsed("xyz").nodeCount(), 2);
        Check.due("nodes of a text around ignored tags", Check.parsed("x</b><zz>y</div></zz>z").nodeCount(), 2);
        Check.due("children for a text around a comment", Check.children(Check.parsed("x<!---->y"), 0), "1 2 3");
        Check.due("children for a text around a BR", Check.children(Check.parsed("x<br>y"), 0), "1 2 3");
        Check.due("children for a text around an element", Check.children(Check.parsed("x<b></b>y"), 0), "1 2 3");
        Check.due("children for a text inside", Check.children(Check.parsed("x<b>y</b>z"), 0), "1 2 4");
        MarkupTreeBuilder x = Check.parsed("<b>1<p>2</b>3");
        Check.due("children of the paragraph", Check.children(x, 3), "5 6");
        Check.due("text of the last", Check.data(x, 6), "3");
        // Eight rounds leave the formatting node open, and the text that it took goes on.
        x = Check.parsed("<b>" + "<div>".repeat(8) + "x</b>y");
        Check.due("text that goes on after eight rounds", Check.data(x, 10), "xy");
        x = Check.parsed("x".repeat(256));
        Check.due("length of the longest text", x.dataLength(1), 256);
        Check.sentence("TEXT char: reconstruct.");
        Check.leaves("<p><b></p> ", "<p><b></b></p><b> </b>", "0 3", "3");
    }

    private static void comment() {
        Check.sentence("COMMENT: create a COMMENT node with the content and append it to the current node.");
        Check.leaves("<p><b></p><!---->", "<p><b></b></p><!---->", "0", "2");
        Check.leaves("<b><object><!--x--><!--y", "<b><object><!--x--><!--y--></object></b>", "0 1 2", "1 |");
        MarkupTreeBuilder x = Check.parsed("<!----><!--x-->");
        Check.due("children of ROOT", Check.children(x, 0), "1 2");
        Check.due("length of an empty content", x.dataLength(1), 0);
        Check.due("kind of an empty content", x.nodeKind(1), MarkupTreeBuilder.COMMENT);
        Check.due("length of the longest content", Check.parsed("<!--" + "x".repeat(252)).dataLength(1), 252);
    }

    private static void append() {
        Check.sentence("Append X to Y takes X out of its parent's children (if it has a parent) and makes it the last child of Y.");
        MarkupTreeBuilder x = Check.parsed("<b>0<p>1<br>2</b>");
        Check.due("children of ROOT", Check.children(x, 0), "1 3");
        Check.due("children that F keeps", Check.children(x, 1), "2");
        Check.due("children of the block", Check.children(x, 3), "7");
        Check.due("children of N", Check.children(x, 7), "4 5 6");
        // The only child leaves.
        x = Check.parsed("<b><p></b>");
        Check.due("children that F keeps", Check.children(x, 1), "");
        Check.due("children of ROOT", Check.children(x, 0), "1 2");
        Check.due("children of N", Check.children(x, 3), "");
    }

    public static void main(String[] args) {
        initially();
        inScope();
        popUntil();
        threeOrMore();
        kindAndAttributeText();
        reconstructStops();
        reconstructBegins();
        text();
        comment();
        append();
        Check.end();
    }
}
