/** Promise 3, end tags but for the adoption: what each closes, and when it is ignored. */
public final class Promise03EndTagsTest {
    private static void blocks() {
        String[] names = {"div", "ul", "object"};
        for (String name : names) {
            String start = "<" + name + ">";
            String end = "</" + name + ">";
            Check.leaves("a" + end + "b", "ab", "0", "");
            Check.leaves(start + "<p>a" + end + "b", start + "<p>a</p>" + end + "b", "0", "");
            Check.leaves(start + "<li>a" + end + "b", start + "<li>a</li>" + end + "b", "0", "");
            Check.leaves(start + "<span>a" + end + "b", start + "<span>a</span>" + end + "b", "0", "");
            Check.prints(start + start + "a" + end + "b", start + start + "a" + end + "b" + end);
        }
        Check.leaves("<div><object></div>x", "<div><object>x</object></div>", "0 1 2", "|");
        Check.leaves("<ul><object></ul>x", "<ul><object>x</object></ul>", "0 1 2", "|");
        Check.leaves("<div><ul><li></div>x", "<div><ul><li></li></ul></div>x", "0", "");
    }

    private static void objectClearsTheList() {
        Check.leaves("<b><object><i><u></object>x", "<b><object><i><u></u></i></object>x</b>", "0 1", "1");
        Check.leaves("<object><b><object><i></object>x",
            "<object><b><object><i></i></object>x</b></object>", "0 1 2", "| 2");
        Check.leaves("<object></object></object>x", "<object></object>x", "0", "");
    }

    private static void paragraph() {
        Check.leaves("</p>x", "<p></p>x", "0", "");
        Check.leaves("<p>a</p>b</p>", "<p>a</p>b<p></p>", "0", "");
        Check.leaves("<b></p>x", "<b><p></p>x</b>", "0 1", "1");
        Check.leaves("<p><object></p>x", "<p><object><p></p>x</object></p>", "0 1 2", "|");
        Check.leaves("<p><span><span>a</p>b", "<p><span><span>a</span></span></p>b", "0", "");
        Check.leaves("<li><p>a</p>b", "<li><p>a</p>b</li>", "0 1", "");
        Check.leaves("</p a=\"1\">", "<p></p>", "0", "");
        Check.leaves("<p><b></p></p>x", "<p><b></b></p><p></p><b>x</b>", "0 4", "4");
    }

    private static void listItem() {
        Check.leaves("</li>x", "x", "0", "");
        Check.leaves("<li>a</li>b", "<li>a</li>b", "0", "");
        Check.leaves("<li><div><p>a</li>b", "<li><div><p>a</p></div></li>b", "0", "");
        Check.leaves("<li><p>a</li>b", "<li><p>a</p></li>b", "0", "");
        Check.leaves("<li><ul></li>x", "<li><ul>x</ul></li>", "0 1 2", "");
        Check.leaves("<li><object></li>x", "<li><object>x</object></li>", "0 1 2", "|");
        Check.leaves("<ul></li>x", "<ul>x</ul>", "0 1", "");
    }

    private static void lineBreak() {
        Check.leaves("</br>x", "<br>x", "0", "");
        Check.leaves("a</BR b=\"1\">c", "a<br>c", "0", "");
        Check.leaves("<span></br>x", "<span><br>x</span>", "0 1", "");
        Check.leaves("<p><b></p></br>", "<p><b></b></p><b><br></b>", "0 3", "3");
    }

    private static void span() {
        Check.leaves("</span>x", "x", "0", "");
        Check.leaves("<span>a</span>b", "<span>a</span>b", "0", "");
        Check.leaves("<span><span>a</span>b", "<span><span>a</span>b</span>", "0 1", "");
        Check.leaves("<span><b>a</span>b", "<span><b>a</b></span><b>b</b>", "0 4", "4");
        String[] special = {"div", "p", "ul", "li"};
        for (String name : special) {
            Check.leaves("<span><" + name + ">a</span>b",
                "<span><" + name + ">ab</" + name + "></span>", "0 1 2", "");
        }
        Check.leaves("<span><object>a</span>b", "<span><object>ab</object></span>", "0 1 2", "|");
    }

    public static void main(String[] args) {
        blocks();
        objectClearsTheList();
        paragraph();
        listItem();
        lineBreak();
        span();
        Check.end();
    }
}
