/** Promise 3, the tokenizer: T1 to T5, and what a parse answers. */
public final class Promise03TokenizerTest {
    private static void answers() {
        MarkupTreeBuilder empty = Check.large();
        Check.due("parse() of nothing", empty.parse(), MarkupTreeBuilder.DONE);
        Check.due("parse() again", empty.parse(), MarkupTreeBuilder.DONE);
        MarkupTreeBuilder done = Check.parsed("<b>1<p>2</b>3");
        String before = Check.everything(done);
        Check.due("second parse()", done.parse(), MarkupTreeBuilder.DONE);
        Check.due("the object after the second parse()", Check.everything(done), before);
        MarkupTreeBuilder full = Check.full("<br>".repeat(9), 8, 16);
        before = Check.everything(full);
        Check.due("second parse() after FULL", full.parse(), MarkupTreeBuilder.FULL);
        Check.due("the object after it", Check.everything(full), before);
    }

    private static void text() {
        Check.prints("a&lt;b", "a&lt;b");
        Check.due("text of &lt;", Check.data(Check.parsed("&lt;"), 1), "<");
        Check.due("text of &amp;", Check.data(Check.parsed("&amp;"), 1), "&");
        Check.due("text of &amp;lt;", Check.data(Check.parsed("&amp;lt;"), 1), "&lt;");
        Check.due("text of &lt;b>", Check.data(Check.parsed("&lt;b>"), 1), "<b>");
        String[] themselves = {"&", "&l", "&lt", "&a", "&am", "&amp", "&LT;", "&Amp;", "&gt;", "&&", "&l;", "&lt ;", ">",
            "a\tb\nc", "\"=/!-"};
        for (String markup : themselves) {
            Check.due("text of " + markup, Check.data(Check.parsed(markup), 1), markup);
        }
        Check.due("text of &&lt;", Check.data(Check.parsed("&&lt;"), 1), "&<");
    }

    private static void lessThanAsText() {
        String[] themselves = {"<", "<<", "< b>", "<1>", "</", "</>", "</ b>", "</1b>", "<@b>", "<[b>", "<`b>", "<{b>", "</@b>", "</{b>", "<!", "<!-", "<!b>", "<!-b-->", "<=b"};
        for (String markup : themselves) {
            Check.due("text of " + markup, Check.data(Check.parsed(markup), 1), markup);
        }
        Check.prints("<<b>x", "&lt;<b>x</b>");
    }

    private static void comments() {
        String[][] contents = {{"<!---->", ""}, {"<!--", ""}, {"<!--a", "a"}, {"<!-->", ">"}, {"<!--->", "->"},
            {"<!--->x-->", "->x"}, {"<!----->", "-"}, {"<!--a--b-->", "a--b"}, {"<!--a-b>c-->", "a-b>c"}, {"<!--a->b-->", "a->b"},
            {"<!--a--->", "a-"}, {"<!--a-- >b-->", "a-- >b"}, {"<!--a-->", "a"}, {"<!--a--", "a--"},
            {"<!--<b>&lt;-->", "<b>&lt;"}, {"<!--\n\t-->", "\n\t"}};
        for (String[] row : contents) {
            MarkupTreeBuilder x = Check.parsed(row[0]);
            Check.due("kind for " + row[0], x.nodeKind(1), MarkupTreeBuilder.COMMENT);
            Check.due("content of " + row[0], Check.data(x, 1), row[1]);
        }
        Check.prints("a<!--b-->c", "a<!--b-->c");
        Check.leaves("<b><!--x</b>", "<b><!--x</b>--></b>", "0 1", "1");
    }

    private static void endTags() {
        Check.prints("<b>x</B>y", "<b>x</b>y");
        Check.prints("<b>x</b a=\">\">y", "<b>x</b>\">y");
        Check.prints("<b>x</b\n>y", "<b>x</b>y");
        Check.prints("<b>x</b1i>y", "<b>x</b>y");
        Check.leaves("<b>x</b", "<b>x</b>", "0 1", "1");
        Check.leaves("<b>x</b <i", "<b>x</b>", "0 1", "1");
        Check.prints("<b>x</bb>y</x>z</divdivdiv>", "<b>xyz</b>");
        Check.leaves("<b>x</unknown", "<b>x</b>", "0 1", "1");
    }

    private static void startTags() {
        String[] names = {"b", "i", "u", "em", "s", "span", "div", "p", "ul", "li", "object"};
        for (int i = 0; i < names.length; i++) {
            MarkupTreeBuilder x = Check.prints("<" + names[i] + ">", "<" + names[i] + "></" + names[i] + ">");
            Check.due("kind of " + names[i], x.nodeKind(1), i + 1);
        }
        Check.prints("<OBJECT><Em><bR>", "<object><em><br></em></object>");
        String[] unknown = {"x", "bb", "bi", "e", "spa", "spans", "objects", "aobject", "objectobject", "aaobject",
            "aaaaaaaaaaaaab", "aaaaaaaab", "bZ", "Ab", "za", "root", "text", "comment"};
        for (String name : unknown) {
            Check.prints("x<" + name + " a=\"b\">y</" + name + ">z", "xyz");
        }
        Check.prints("<b/>x", "<b>x</b>");
        Check.prints("<b<i>x", "<b i=\"\">x</b>");
        String[] dropped = {"<b", "<b ", "<b a", "<b a=", "<b a=\"", "<b a=\"x>y", "<b a=\"x\"", "<x a=\"1>y<b>"};
        for (String markup : dropped) {
            Check.leaves("t" + markup, "t", "0", "");
        }
    }

    private static void attributes() {
        String[][] texts = {{"<b>", ""}, {"<b a>", " a=\"\""}, {"<b a=>", " a=\"\""}, {"<b a=\"\">", " a=\"\""},
            {"<b a=\"1\">", " a=\"1\""}, {"<b A=\"Q\">", " a=\"Q\""}, {"<b a=x>", " a=\"\" x=\"\""},
            {"<b a=\"1\"c=\"2\">", " a=\"1\" c=\"2\""}, {"<b a = \"x\">", " a=\"\" x=\"\""},
            {"<b a= \"x\">", " a=\"\" x=\"\""}, {"<b a=\">\">", " a=\">\""}, {"<b a=\"&lt;<i>\n\">", " a=\"&lt;<i>\n\""},
            {"<b a=\"1\" a=\"2\">", " a=\"1\""}, {"<b a A=\"2\" c>", " a=\"\" c=\"\""}, {"<b a=\"1\" A>", " a=\"1\""},
            {"<b z y x z=\"1\">", " z=\"\" y=\"\" x=\"\""}, {"<b1a=2>", " a=\"\""}, {"<b ab a abc>", " ab=\"\" a=\"\" abc=\"\""},
            {"<b a/c>", " a=\"\" c=\"\""}, {"<b =\"x\">", " x=\"\""}, {"<b a==\"x\">", " a=\"\" x=\"\""},
            {"<b ab aB AB ac>", " ab=\"\" ac=\"\""}, {"<b ab ba>", " ab=\"\" ba=\"\""}, {"<b a='1'>", " a=\"\""},
            {"<b A Z z a M>", " a=\"\" z=\"\" m=\"\""}, {"<b @[`{>", ""}, {"<b a@z[c`d{e>", " a=\"\" z=\"\" c=\"\" d=\"\" e=\"\""}};
        for (String[] row : texts) {
            MarkupTreeBuilder x = Check.parsed(row[0]);
            Check.due("kind for " + row[0], x.nodeKind(1), MarkupTreeBuilder.B);
            Check.due("attribute text of " + row[0], Check.data(x, 1), row[1]);
        }
    }

    private static String manyAttributes(int count) {
        StringBuilder out = new StringBuilder();
        for (int i = 0; i < count; i++) {
            out.append(' ').append((char) ('a' + i % 26)).append(i < 26 ? "" : (char) ('a' + i / 26));
        }
        return out.toString();
    }

    private static void asManyAttributesAsTheInputHolds() {
        Check.prints("x<x" + manyAttributes(92) + ">y", "xy");
        Check.due("nodes of too much attribute text", Check.full("<b" + manyAttributes(92) + ">", 8, 256).nodeCount(), 1);
        Check.prints("<x" + " a".repeat(126) + ">", "");
        Check.prints("<b" + " a".repeat(126) + ">", "<b a=\"\"></b>");
        String values = "<b a=\"" + "v".repeat(248) + "\">";
        Check.prints(values, values + "</b>");
    }

    private static void whereAFullInputEnds() {
        String[] scraps = {"<", "</", "<!", "<!-", "&", "&l", "&lt", "&am", "&amp"};
        for (String scrap : scraps) {
            String markup = "x".repeat(256 - scrap.length()) + scrap;
            Check.due("text of a full input with " + scrap, Check.data(Check.parsed(markup), 1), markup);
        }
        String[] comments = {"", "-", "--", "a", "a-"};
        for (String content : comments) {
            MarkupTreeBuilder x = Check.parsed("x".repeat(252 - content.length()) + "<!--" + content);
            Check.due("comment at the end of a full input", Check.data(x, 2), content);
        }
        String[] dropped = {"<b", "</b", "<b ", "</b ", "<b a", "<b a=", "<b a=\"", "<b a=\"v", "<b a=\"v\"", "<bbbb", "</bbbb"};
        for (String tag : dropped) {
            String text = "x".repeat(256 - tag.length());
            Check.leaves(text + tag, text, "0", "");
        }
        Check.leaves("<" + "b".repeat(255), "", "0", "");
        Check.leaves("<b " + "a".repeat(253), "", "0", "");
        Check.prints("x".repeat(253) + "<b>", "x".repeat(253) + "<b></b>");
    }

    public static void main(String[] args) {
        answers();
        text();
        lessThanAsText();
        comments();
        endTags();
        startTags();
        attributes();
        asManyAttributesAsTheInputHolds();
        whereAFullInputEnds();
        Check.end();
    }
}
