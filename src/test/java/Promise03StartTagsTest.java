/** Promise 3, start tags, text and comments: what each does to the tree, the stack and the list. */
public final class Promise03StartTagsTest {
    private static void formattingAndSpan() {
        Check.leaves("<b><i><u><em><s><span>x", "<b><i><u><em><s><span>x</span></s></em></u></i></b>",
            "0 1 2 3 4 5 6", "1 2 3 4 5");
        Check.leaves("<p><b></p><i>", "<p><b></b></p><b><i></i></b>", "0 3 4", "3 4");
        Check.leaves("<p><b></p><span>", "<p><b></b></p><b><span></span></b>", "0 3 4", "3");
    }

    private static void lineBreak() {
        Check.leaves("a<br>b", "a<br>b", "0", "");
        Check.leaves("<br A=\"1\"/>", "<br a=\"1\">", "0", "");
        Check.leaves("<p><b></p><br>x", "<p><b></b></p><b><br>x</b>", "0 3", "3");
    }

    private static void object() {
        Check.leaves("<object>", "<object></object>", "0 1", "|");
        Check.leaves("<b><object><i>x", "<b><object><i>x</i></object></b>", "0 1 2 3", "1 | 3");
        Check.leaves("<p><b></p><object>x", "<p><b></b></p><b><object>x</object></b>", "0 3 4", "3 |");
    }

    private static void blocks() {
        String[] names = {"div", "p", "ul"};
        for (String name : names) {
            String block = "<" + name + ">";
            String end = "</" + name + ">";
            Check.leaves("<p>a" + block + "b", "<p>a</p>" + block + "b" + end, "0 3", "");
            Check.leaves("<p><span>a" + block, "<p><span>a</span></p>" + block + end, "0 4", "");
            Check.leaves("<p><object>" + block, "<p><object>" + block + end + "</object></p>", "0 1 2 3", "|");
            Check.leaves("<p><b>a" + block, "<p><b>a</b></p>" + block + end, "0 4", "2");
            Check.leaves("<b>" + block, "<b>" + block + end + "</b>", "0 1 2", "1");
        }
        Check.leaves("<div><div><ul><ul>", "<div><div><ul><ul></ul></ul></div></div>", "0 1 2 3 4", "");
        Check.leaves("<p><b></p><div><!--c-->", "<p><b></b></p><div><!--c--></div>", "0 3", "2");
    }

    private static void listItems() {
        Check.leaves("<li>a<li>b", "<li>a</li><li>b</li>", "0 3", "");
        Check.leaves("<p>a<li>b", "<p>a</p><li>b</li>", "0 3", "");
        Check.leaves("<ul><li>a<ul><li>b<li>c</ul>d",
            "<ul><li>a<ul><li>b</li><li>c</li></ul>d</li></ul>", "0 1 2", "");
        Check.leaves("<li><div><p>a<li>b", "<li><div><p>a</p></div></li><li>b</li>", "0 5", "");
        Check.leaves("<li><span>a<li>b", "<li><span>a</span></li><li>b</li>", "0 4", "");
        Check.leaves("<li><object><li>a", "<li><object><li>a</li></object></li>", "0 1 2 3", "|");
        Check.leaves("<li><ul><li>a", "<li><ul><li>a</li></ul></li>", "0 1 2 3", "");
        Check.leaves("<li><ul><p><li>a", "<li><ul><p></p><li>a</li></ul></li>", "0 1 2 4", "");
        Check.leaves("<li><b>a<li>b", "<li><b>a</b></li><li><b>b</b></li>", "0 4 5", "5");
    }

    private static void threeAlike() {
        Check.leaves("<b><b><b>", "<b><b><b></b></b></b>", "0 1 2 3", "1 2 3");
        Check.leaves("<b><b><b><b>", "<b><b><b><b></b></b></b></b>", "0 1 2 3 4", "2 3 4");
        Check.leaves("<b><b><b><b><b>", "<b><b><b><b><b></b></b></b></b></b>", "0 1 2 3 4 5", "3 4 5");
        Check.leaves("<b><i><b><i><b><i>", "<b><i><b><i><b><i></i></b></i></b></i></b>", "0 1 2 3 4 5 6", "1 2 3 4 5 6");
        MarkupTreeBuilder x = Check.parsed("<b a><i><b a=\"1\"><b A><b a=\"\"><b a=\"2\"><b a b><b a=>");
        Check.due("list of alike attribute texts", Check.list(x), "2 3 4 5 6 7 8");
        x = Check.parsed("<b a=\"1\"><b a=\"2\"><b a=\"3\"><b a=\"4\"><b c=\"1\">");
        Check.due("list of attribute texts of one length", Check.list(x), "1 2 3 4 5");
        Check.leaves("<b><b><b><object><b><b><b>",
            "<b><b><b><object><b><b><b></b></b></b></object></b></b></b>", "0 1 2 3 4 5 6 7", "1 2 3 | 5 6 7");
        Check.due("list inside an object", Check.list(Check.parsed("<b><object><b><b><b><b>")), "1 | 4 5 6");
    }

    private static void reconstruction() {
        Check.leaves("<p><b><i>a</p>b", "<p><b><i>a</i></b></p><b><i>b</i></b>", "0 5 6", "5 6");
        Check.leaves("<b><p><i>a</p>b", "<b><p><i>a</i></p><i>b</i></b>", "0 1 5", "1 5");
        Check.leaves("<object><p><b></p></object>a", "<object><p><b></b></p></object>a", "0", "");
        Check.leaves("<p><b></p><div><object>a", "<p><b></b></p><div><b><object>a</object></b></div>", "0 3 4 5", "4 |");
        MarkupTreeBuilder x = Check.parsed("<p><b a=\"1\"></p>x");
        Check.due("attribute text of the new node", Check.data(x, 3), " a=\"1\"");
    }

    private static void textAndComments() {
        MarkupTreeBuilder x = Check.parsed("ab<x>c</x>&lt;");
        Check.due("nodes of one text", x.nodeCount(), 2);
        Check.due("one text", Check.data(x, 1), "abc<");
        x = Check.prints("a<!---->b<br>c<b></b>d", "a<!---->b<br>c<b></b>d");
        Check.due("children", Check.children(x, 0), "1 2 3 4 5 6 7");
        Check.leaves("<p><b></p><!--c-->", "<p><b></b></p><!--c-->", "0", "2");
    }

    public static void main(String[] args) {
        formattingAndSpan();
        lineBreak();
        object();
        blocks();
        listItems();
        threeAlike();
        reconstruction();
        textAndComments();
        Check.end();
    }
}
