/** 'Terms', 'Start tags, by kind' and 'End tags, by kind' without the adoption: boundary cases, a sentence at a time. */
public final class Boundary03TagsTest {
    private static final String[] FORMATTING = {"b", "i", "u", "em", "s"};

    /** The end tag leaves everything as it was. */
    private static void isIgnored(String before, String tag) {
        MarkupTreeBuilder without = Check.parsed(before);
        MarkupTreeBuilder with = Check.parsed(before + tag);
        Check.due("the object after " + before + tag, Check.everything(with), Check.everything(without));
        with = Check.parsed(before + tag + tag + tag);
        Check.due("the object after more of it", Check.everything(with), Check.everything(without));
    }

    private static void unknown() {
        Check.sentence("UNKNOWN: ignored");
        String[] befores = {"", "x", "<b>", "<p><b></p>", "<b><object>", "<ul><li><p>"};
        for (String before : befores) {
            isIgnored(before, "<zz>");
            isIgnored(before, "<zz a=\"1\" b>");
            isIgnored(before, "</zz>");
            isIgnored(before, "</zz a=\"1\" b>");
        }
    }

    private static void formatting() {
        Check.sentence("B I U EM S: reconstruct; insert; push formatting the new node.");
        for (String name : FORMATTING) {
            String tag = "<" + name + ">";
            String end = "</" + name + ">";
            Check.leaves(tag, tag + end, "0 1", "1");
            Check.leaves("<object>" + tag, "<object>" + tag + end + "</object>", "0 1 2", "| 2");
            Check.leaves("<p>" + tag + "</p>" + tag, "<p>" + tag + end + "</p>" + tag + tag + end + end, "0 3 4", "3 4");
            Check.leaves(tag.repeat(4), tag.repeat(4) + end.repeat(4), "0 1 2 3 4", "2 3 4");
        }
    }

    private static void spanBrObject() {
        Check.sentence("SPAN: reconstruct; insert.");
        Check.leaves("<span>", "<span></span>", "0 1", "");
        Check.leaves("<span><span><span><span>", "<span><span><span><span></span></span></span></span>", "0 1 2 3 4", "");
        Check.leaves("<p><b></p><span>", "<p><b></b></p><b><span></span></b>", "0 3 4", "3");
        Check.sentence("BR: reconstruct; insert; pop.");
        Check.leaves("<br><br>", "<br><br>", "0", "");
        Check.leaves("<p><b></p><br>", "<p><b></b></p><b><br></b>", "0 3", "3");
        Check.sentence("OBJECT: reconstruct; insert; add a MARKER at the end of the list.");
        Check.leaves("<object>", "<object></object>", "0 1", "|");
        Check.leaves("<object><object><object>", "<object><object><object></object></object></object>", "0 1 2 3", "| | |");
        Check.leaves("<p><b></p><object>", "<p><b></b></p><b><object></object></b>", "0 3 4", "3 |");
        MarkupTreeBuilder x = Check.parsed("<object>".repeat(32));
        Check.due("stackSize() of as many as the input holds", x.stackSize(), 33);
        Check.due("listSize() of as many as the input holds", x.listSize(), 32);
    }

    private static void divPUl() {
        Check.sentence("DIV P UL: if P is in scope, close P. Then insert.");
        String[] names = {"div", "p", "ul"};
        for (String name : names) {
            String tag = "<" + name + ">";
            String end = "</" + name + ">";
            Check.leaves(tag, tag + end, "0 1", "");
            Check.leaves("<p>" + tag, "<p></p>" + tag + end, "0 2", "");
            Check.leaves("<p><b><span>" + tag, "<p><b><span></span></b></p>" + tag + end, "0 4", "2");
            Check.leaves("<div><p><span>" + tag, "<div><p><span></span></p>" + tag + end + "</div>", "0 1 4", "");
            Check.leaves("<p><object>" + tag, "<p><object>" + tag + end + "</object></p>", "0 1 2 3", "|");
            Check.leaves("<p></p>" + tag, "<p></p>" + tag + end, "0 2", "");
            // No reconstruction.
            Check.leaves("<p><b></p>" + tag, "<p><b></b></p>" + tag + end, "0 3", "2");
        }
        Check.leaves("<div><div>", "<div><div></div></div>", "0 1 2", "");
        Check.leaves("<ul><ul>", "<ul><ul></ul></ul>", "0 1 2", "");
        Check.leaves("<li><div><li>", "<li><div></div></li><li></li>", "0 3", "");
    }

    private static void listItemStart() {
        Check.sentence("At an entry of kind LI: implied end tags except LI, pop until LI, and end the look.");
        Check.leaves("<li><li>", "<li></li><li></li>", "0 2", "");
        Check.leaves("<li><p><li>", "<li><p></p></li><li></li>", "0 3", "");
        Check.leaves("<ul><li><li>", "<ul><li></li><li></li></ul>", "0 1 3", "");
        // The look ends with the first one that it meets.
        Check.leaves("<li><object><li><li>", "<li><object><li></li><li></li></object></li>", "0 1 2 4", "|");
        Check.sentence("At an entry of kind ROOT, UL, OBJECT or BR: end the look.");
        Check.leaves("<li>", "<li></li>", "0 1", "");
        Check.leaves("<span><li>", "<span><li></li></span>", "0 1 2", "");
        Check.leaves("<li><ul><li>", "<li><ul><li></li></ul></li>", "0 1 2 3", "");
        Check.leaves("<li><ul><div><li>", "<li><ul><div><li></li></div></ul></li>", "0 1 2 3 4", "");
        Check.leaves("<li><object><li>", "<li><object><li></li></object></li>", "0 1 2 3", "|");
        Check.leaves("<li><br><li>", "<li><br></li><li></li>", "0 3", "");
        Check.sentence("At any other entry: go on down.");
        String[] others = {"b", "i", "u", "em", "s", "span", "div", "p"};
        for (String name : others) {
            String inner = "<" + name + "></" + name + ">";
            MarkupTreeBuilder x = Check.prints("<li><" + name + "><li>", "<li>" + inner + "</li><li></li>");
            Check.due("stack after one inside " + name, Check.stack(x), "0 3");
        }
        Check.leaves("<li><div><span><b><div><li>", "<li><div><span><b><div></div></b></span></div></li><li></li>", "0 6", "4");
        Check.sentence("After the look: if P is in scope, close P. Then insert.");
        Check.leaves("<p><li>", "<p></p><li></li>", "0 2", "");
        Check.leaves("<ul><p><b><li>", "<ul><p><b></b></p><li></li></ul>", "0 1 4", "3");
        Check.leaves("<p><object><li>", "<p><object><li></li></object></p>", "0 1 2 3", "|");
        Check.leaves("<li><ul><p><li>", "<li><ul><p></p><li></li></ul></li>", "0 1 2 4", "");
    }

    private static void blockEnds() {
        Check.sentence("DIV UL OBJECT: if no node of the kind is in scope, the tag is ignored.");
        String[] names = {"div", "ul", "object"};
        String[] befores = {"", "x", "<b>", "<span>", "<p>", "<li>", "<p><b></p>", "<li><p><b>"};
        for (String name : names) {
            for (String before : befores) {
                isIgnored(before, "</" + name + ">");
            }
            isIgnored("<" + name + "></" + name + ">", "</" + name + ">");
        }
        isIgnored("<div><object>", "</div>");
        isIgnored("<div><object><b><p>", "</div>");
        isIgnored("<ul><object>", "</ul>");
        isIgnored("<ul><li><object><li>", "</ul>");
        isIgnored("<div><b>", "</object>");
        isIgnored("<div>", "</ul>");
        isIgnored("<ul>", "</div>");
        Check.sentence("Otherwise: implied end tags (no exception); pop until the kind.");
        for (String name : names) {
            String tag = "<" + name + ">";
            String end = "</" + name + ">";
            Check.leaves(tag + end, tag + end, "0", "");
            Check.leaves(tag + "<p>" + end, tag + "<p></p>" + end, "0", "");
            Check.leaves(tag + "<li><p>" + end, tag + "<li><p></p></li>" + end, "0", "");
            Check.leaves(tag + "<li><span><p>" + end, tag + "<li><span><p></p></span></li>" + end, "0", "");
        }
    }

    private static void objectEnd() {
        Check.sentence("For OBJECT only, then remove entries from the end of the list until a MARKER has been removed "
            + "or the list is empty.");
        Check.leaves("<object></object>", "<object></object>", "0", "");
        Check.leaves("<object><b></object>", "<object><b></b></object>", "0", "");
        Check.leaves("<object><b><i><u></object>x", "<object><b><i><u></u></i></b></object>x", "0", "");
        Check.leaves("<object><p><b></p></object>x", "<object><p><b></b></p></object>x", "0", "");
        Check.leaves("<b><object></object>x", "<b><object></object>x</b>", "0 1", "1");
        Check.leaves("<b><object><i></object>x", "<b><object><i></i></object>x</b>", "0 1", "1");
        Check.leaves("<object><object></object>", "<object><object></object></object>", "0 1", "|");
        Check.leaves("<object><b><object><i></object>", "<object><b><object><i></i></object></b></object>", "0 1 2", "| 2");
        Check.leaves("<object><object></object></object></object>", "<object><object></object></object>", "0", "");
        // For DIV and UL the list stays as it is.
        Check.leaves("<object><div><b></div>", "<object><div><b></b></div></object>", "0 1", "| 3");
        Check.leaves("<object><ul><b></ul>", "<object><ul><b></b></ul></object>", "0 1", "| 3");
    }

    private static void paragraphEnd() {
        Check.sentence("P: if P is not in scope, insert (P, empty attribute text). Then close P.");
        Check.leaves("</p>", "<p></p>", "0", "");
        Check.leaves("</p a=\"1\">", "<p></p>", "0", "");
        Check.due("length of the empty attribute text", Check.parsed("</p a=\"1\">").dataLength(1), 0);
        Check.leaves("<p a=\"1\"></p>", "<p a=\"1\"></p>", "0", "");
        Check.leaves("<b><span></p>", "<b><span><p></p></span></b>", "0 1 2", "1");
        Check.leaves("<p><object></p>", "<p><object><p></p></object></p>", "0 1 2", "|");
        Check.leaves("<p><object></object></p>", "<p><object></object></p>", "0", "");
        Check.leaves("<p><span><b></p>", "<p><span><b></b></span></p>", "0", "3");
        // No reconstruction.
        Check.leaves("<p><b></p></p>", "<p><b></b></p><p></p>", "0", "2");
    }

    private static void listItemEnd() {
        Check.sentence("LI: if LI is not in list-item scope, the tag is ignored.");
        String[] befores = {"", "x", "<ul>", "<b>", "<p>", "<div><span>", "<li></li>", "<li><ul>", "<li><ul><div><p>", "<li><object>",
            "<li><object><b>", "<ul><li><ul>"};
        for (String before : befores) {
            isIgnored(before, "</li>");
        }
        Check.sentence("Otherwise implied end tags except LI; pop until LI.");
        Check.leaves("<li></li>", "<li></li>", "0", "");
        Check.leaves("<ul><li></li>", "<ul><li></li></ul>", "0 1", "");
        Check.leaves("<li><p></li>", "<li><p></p></li>", "0", "");
        Check.leaves("<li><div><span><p><b></li>", "<li><div><span><p><b></b></p></span></div></li>", "0", "5");
        Check.leaves("<li><object><li></li>", "<li><object><li></li></object></li>", "0 1 2", "|");
        Check.leaves("<li><ul></ul></li>", "<li><ul></ul></li>", "0", "");
    }

    private static void lineBreakEnd() {
        Check.sentence("BR: handled exactly as a start tag BR with empty attribute text.");
        String[] befores = {"", "x", "<b>", "<p><b></p>", "<object><p><b><i></p>", "<span>"};
        for (String before : befores) {
            String due = Check.everything(Check.parsed(before + "<br>"));
            Check.due("the object after " + before + "</br>", Check.everything(Check.parsed(before + "</br>")), due);
            Check.due("the object after " + before + "</br a>", Check.everything(Check.parsed(before + "</br a=\"1\">")), due);
        }
        Check.due("length of the empty attribute text", Check.parsed("</br a=\"1\">").dataLength(1), 0);
    }

    private static void onlyItsOwn() {
        Check.sentence("POP UNTIL kind K: pop repeatedly, stopping right after a node of kind K has been popped.");
        String[] outers = {"div", "ul", "li", "object", "span", "b", "s"};
        String[] inners = {"div", "ul", "object", "p", "li", "span", "b", "i", "u", "em", "s"};
        for (String outer : outers) {
            for (String inner : inners) {
                if (outer.equals("li") && inner.equals("li")) {
                    continue;
                }
                String list = outer.equals("object") ? "|" : outer.equals("b") || outer.equals("s") ? "1" : "";
                String markup = "<" + outer + "><" + inner + "></" + inner + ">";
                Check.leaves(markup, markup + "</" + outer + ">", "0 1", list);
            }
            String list = outer.equals("object") ? "|" : outer.equals("b") || outer.equals("s") ? "1" : "";
            Check.leaves("<" + outer + "></p>", "<" + outer + "><p></p></" + outer + ">", "0 1", list);
            Check.leaves("<" + outer + "></br>", "<" + outer + "><br></" + outer + ">", "0 1", list);
        }
    }

    private static void otherEnd() {
        Check.sentence("At a node of kind K: implied end tags except K; pop until that very node has been popped; end.");
        Check.leaves("<span></span>", "<span></span>", "0", "");
        Check.leaves("<span><span></span>", "<span><span></span></span>", "0 1", "");
        Check.leaves("<span><b><i></span>", "<span><b><i></i></b></span>", "0", "2 3");
        Check.leaves("<div><span><span><b></span>", "<div><span><span><b></b></span></span></div>", "0 1 2", "4");
        Check.sentence("At a SPECIAL node: the tag is ignored; end.");
        isIgnored("", "</span>");
        isIgnored("<b><i>", "</span>");
        String[] special = {"div", "p", "ul", "li", "object"};
        for (String name : special) {
            isIgnored("<span><" + name + ">", "</span>");
            isIgnored("<span><" + name + "><b>", "</span>");
            // A formatting node that three later ones took out of the list ends in the same way.
            isIgnored("<b><b><b><b></b></b></b><" + name + ">", "</b>");
        }
        Check.sentence("At any other node: go on down.");
        for (String name : FORMATTING) {
            Check.leaves("<span><" + name + "></span>", "<span><" + name + "></" + name + "></span>", "0", "2");
        }
        Check.leaves("<b><b><b><b></b></b></b><span></b>", "<b><b><b><b></b></b></b><span></span></b>", "0", "");
        Check.leaves("<b><b><b><b></b></b></b><span><i></b>", "<b><b><b><b></b></b></b><span><i></i></span></b>", "0", "6");
        // A BR is SPECIAL, but never open.
        Check.leaves("<span><br></span>", "<span><br></span>", "0", "");
    }

    public static void main(String[] args) {
        unknown();
        formatting();
        spanBrObject();
        divPUl();
        listItemStart();
        blockEnds();
        objectEnd();
        paragraphEnd();
        listItemEnd();
        lineBreakEnd();
        onlyItsOwn();
        otherEnd();
        Check.end();
    }
}
