/** 'Terms', 'Characters and names' and 'Tokenizer': their boundary cases, a sentence of the document at a time. */
public final class Boundary03TokenizerTest {
    private static final String[] NAMES = {"b", "i", "u", "em", "s", "span", "div", "p", "ul", "li", "object", "br"};
    /** What stands next to the letters, and other characters that are none. */
    private static final String NO_LETTERS = "@[`{09_-:.;,!?/=\"'&\t\n ~";

    /**
     * The input ends with the scrap: alone, in a full input, and where an earlier parse left characters behind that would
     * make the scrap whole. It prints as the text before it and then as this.
     */
    private static void atTheEnd(String scrap, String rest, String prints) {
        int[] caps = {16, 256};
        for (int cap : caps) {
            MarkupTreeBuilder x = new MarkupTreeBuilder(cap, 64, 256);
            String[] texts = {"", "x", "x".repeat(cap - scrap.length())};
            for (String text : texts) {
                x.reset();
                Check.feed(x, text + scrap);
                Check.due("parse() of " + text + scrap, x.parse(), MarkupTreeBuilder.DONE);
                Check.due("serialization of " + text + scrap, Check.serial(x), text + prints);
                Check.due("stack after " + text + scrap, Check.stack(x), "0");
                Check.due("list after " + text + scrap, Check.list(x), "");
            }
        }
        MarkupTreeBuilder x = Check.parsed(scrap + rest);
        x.reset();
        Check.feed(x, scrap);
        Check.due("parse() of " + scrap, x.parse(), MarkupTreeBuilder.DONE);
        Check.due("serialization of " + scrap + " after " + scrap + rest, Check.serial(x), prints);
    }

    /** The markup becomes this one text. */
    private static void isText(String markup, String text) {
        MarkupTreeBuilder x = Check.parsed(markup);
        Check.due("nodeCount() of " + markup, x.nodeCount(), 2);
        Check.due("kind of " + markup, x.nodeKind(1), MarkupTreeBuilder.TEXT);
        Check.due("text of " + markup, Check.data(x, 1), text);
    }

    private static void isComment(String markup, String content, String after) {
        MarkupTreeBuilder x = Check.parsed(markup);
        Check.due("kind of " + markup, x.nodeKind(1), MarkupTreeBuilder.COMMENT);
        Check.due("content of " + markup, Check.data(x, 1), content);
        Check.due("nodeCount() of " + markup, x.nodeCount(), after.isEmpty() ? 2 : 3);
        Check.due("text after " + markup, Check.data(x, 2), after);
    }

    /** The start tag of a B has this attribute text, and the text follows it. */
    private static void hasAttributes(String markup, String attributes, String after) {
        MarkupTreeBuilder x = Check.parsed(markup);
        Check.due("kind of " + markup, x.nodeKind(1), MarkupTreeBuilder.B);
        Check.due("attribute text of " + markup, Check.data(x, 1), attributes);
        Check.due("text after " + markup, Check.data(x, 2), after);
    }

    private static void letters() {
        Check.sentence("LETTER means 'a'..'z' or 'A'..'Z'.");
        for (int i = 0; i < NO_LETTERS.length(); i++) {
            char c = NO_LETTERS.charAt(i);
            String start = "<" + c + "b>";
            if (c != '/') {
                isText(start, start);
            }
            isText("</" + c + "b>", "</" + c + "b>");
            // Inside a tag it ends the name.
            hasAttributes("<b" + c + "A>x", " a=\"\"", "x");
            Check.prints("<b>x</b" + c + "i>y", "<b>x</b>y");
            if (c != '=') {
                hasAttributes("<b a" + c + "Z>x", " a=\"\" z=\"\"", "x");
            }
        }
        for (char c = 'a'; c <= 'z'; c++) {
            Check.due("attribute " + c, Check.data(Check.parsed("<b " + c + ">"), 1), " " + c + "=\"\"");
        }
    }

    private static void folding() {
        Check.sentence("A letter is FOLDED by turning 'A'..'Z' into 'a'..'z'.");
        for (char c = 'A'; c <= 'Z'; c++) {
            String small = String.valueOf((char) (c + 32));
            Check.due("attribute " + c, Check.data(Check.parsed("<b " + c + ">"), 1), " " + small + "=\"\"");
            Check.due("attributes " + c + " and " + small, Check.data(Check.parsed("<b " + c + " " + small + ">"), 1),
                " " + small + "=\"\"");
        }
        for (String name : NAMES) {
            String large = name.toUpperCase(java.util.Locale.ROOT);
            String end = name.equals("br") ? "" : "</" + name + ">";
            Check.prints("<" + large + ">", "<" + name + ">" + end);
            Check.prints("<" + large.charAt(0) + name.substring(1) + ">", "<" + name + ">" + end);
        }
        Check.prints("<b>x</B>y", "<b>x</b>y");
        Check.prints("<div>x</DiV>y", "<div>x</div>y");
        // '@' and '[' differ from '`' and '{' as the letters do, and are not folded.
        isText("@`[{AaZz", "@`[{AaZz");
    }

    private static void unknownNames() {
        Check.sentence("A tag whose folded name is none of these twelve is UNKNOWN.");
        for (String name : NAMES) {
            String[] others = {name + "q", "q" + name, name + name, name + "zzzzzzzz", "qqqqqqqq" + name, "zzzzzzz" + name};
            for (String other : others) {
                Check.prints("x<" + other + ">y</" + other + ">z", "xyz");
            }
        }
        String[] others = {"a", "c", "e", "m", "sp", "spa", "span".repeat(2), "di", "iv", "l", "objec", "bject", "r", "brr",
            "root", "text", "comment", "marker", "z".repeat(100)};
        for (String other : others) {
            Check.prints("x<" + other + ">y</" + other + ">z", "xyz");
        }
        Check.leaves("<b><x a=\"1\"><i></x>y", "<b><i>y</i></b>", "0 1 2", "1 2");
    }

    private static void t1() {
        Check.sentence("If c is '&' and the next three characters are 'l','t',';', it stands for '<' and 4 characters are used up.");
        isText("&lt;", "<");
        isText("&lt;;", "<;");
        isText("&lt;b>", "<b>");
        isText("&lt;&lt;", "<<");
        isText("&lt;!--x-->", "<!--x-->");
        atTheEnd("&lt;", "x", "&lt;");
        Check.sentence("Else if c is '&' and the next four are 'a','m','p',';', it stands for '&' and 5 are used up.");
        isText("&amp;", "&");
        isText("&amp;;", "&;");
        isText("&amp;lt;", "&lt;");
        isText("&amp;amp;", "&amp;");
        atTheEnd("&amp;", "x", "&amp;");
        Check.sentence("Otherwise c stands for itself and 1 is used up.");
        String[] themselves = {"&l", "&a;", "&am", "&lT;", "&Lt;", "&LT;", "&AMP;", "&amP;", "&gt;", "&quot;", "& lt;",
            "&l t;", "&lt ;", "&lt:", "&amp:", "&am;", "&mp;", "&lamp;", ";", "lt;", "amp;", ">", "-->"};
        for (String markup : themselves) {
            isText(markup, markup);
        }
        isText("&&lt;", "&<");
        isText("&l&lt;", "&l<");
        isText("&lt&lt;", "&lt<");
        isText("&am&amp;", "&am&");
        isText("&amp&amp;", "&amp&");
        Check.prints("&<b>", "&amp;<b></b>");
        Check.prints("&lt<b>", "&amp;lt<b></b>");
        atTheEnd("&", "lt;", "&amp;");
        atTheEnd("&", "amp;", "&amp;");
        atTheEnd("&l", "t;", "&amp;l");
        atTheEnd("&lt", ";", "&amp;lt");
        atTheEnd("&a", "mp;", "&amp;a");
        atTheEnd("&am", "p;", "&amp;am");
        atTheEnd("&amp", ";", "&amp;amp");
    }

    private static void t2() {
        Check.sentence("up to (not including) the first occurrence of '-','-','>' that starts after these four characters");
        isComment("<!---->", "", "");
        isComment("<!---->-->", "", "-->");
        isComment("<!--a-->b-->", "a", "b-->");
        isComment("<!----->", "-", "");
        isComment("<!------>", "--", "");
        isComment("<!--a--->b", "a-", "b");
        isComment("<!--->-->b", "->", "b");
        isComment("<!--a--!>b-->c", "a--!>b", "c");
        isComment("<!--<!--a-->b", "<!--a", "b");
        isComment("<!--</b><i a=\"-->b", "</b><i a=\"", "b");
        isComment("<!--&lt;&amp;-->b", "&lt;&amp;", "b");
        Check.sentence("the dashes of the opening are never reused");
        isComment("<!-->", ">", "");
        isComment("<!-->a-->b", ">a", "b");
        isComment("<!--->", "->", "");
        isComment("<!--->a-->b", "->a", "b");
        Check.sentence("If there is no such occurrence, the content is all remaining characters and the input ends.");
        String[] contents = {"", "-", "--", "a", "a-", "a--", "--a>", "<b>x</b>", "- ->", "->", ">"};
        for (String content : contents) {
            isComment("<!--" + content, content, "");
            atTheEnd("<!--" + content, "-->y", "<!--" + content + "-->");
        }
        isComment("<!--" + "y".repeat(252), "y".repeat(252), "");
        isComment("<!--" + "y".repeat(249) + "-->", "y".repeat(249), "");
        Check.leaves("<b><!--</b>", "<b><!--</b>--></b>", "0 1", "1");
    }

    private static void t3() {
        Check.sentence("Its name is the longest run of letters after the '/', folded.");
        Check.leaves("<b><i></bi></ib>x", "<b><i>x</i></b>", "0 1 2", "1 2");
        Check.leaves("<b></b1i>x", "<b></b>x", "0", "");
        Check.sentence("Then everything through the next '>' is used up.");
        Check.prints("<b>x</b   >y", "<b>x</b>y");
        Check.prints("<b>x</b a=\">\">y", "<b>x</b>\">y");
        Check.prints("<b>x</b<i>y", "<b>x</b>y");
        Check.prints("<b>x</b>>y", "<b>x</b>>y");
        Check.prints("<b>x</unknown <i>y", "<b>xy</b>");
        Check.sentence("If there is no later '>', the tag is dropped and the input ends.");
        String[] scraps = {"</b", "</b ", "</b a=\"\"", "</b <i", "</br", "</p", "</p\n", "</p &lt;", "</zz"};
        for (String scrap : scraps) {
            atTheEnd(scrap, ">", "");
        }
        Check.leaves("<b>x</b", "<b>x</b>", "0 1", "1");
        Check.leaves("<p><b></p><br</br", "<p><b></b></p>", "0", "2");
        Check.leaves("</" + "b".repeat(254), "", "0", "");
        Check.leaves("<b>x</b" + " ".repeat(249), "<b>x</b>", "0 1", "1");
        Check.leaves("<b>x</b" + " ".repeat(248) + ">", "<b>x</b>", "0", "");
    }

    private static void t4Dropped() {
        Check.sentence("at end of input, the tag is dropped and the input ends");
        String[] scraps = {"<b", "<b ", "<b/", "<b a", "<b a ", "<b a=", "<b a= ", "<b a=\"\"", "<b a=\"v\"", "<b a=\">\"", "<b a=v",
            "<b <i", "<b &lt;", "<b <!--", "<br", "<zz", "<object", "<p a=\"\" ", "<li a b"};
        for (String scrap : scraps) {
            atTheEnd(scrap, ">", "");
        }
        Check.leaves("<" + "b".repeat(255), "", "0", "");
        Check.leaves("<b " + "a".repeat(253), "", "0", "");
        Check.leaves("<p>x<p", "<p>x</p>", "0 1", "");
        Check.leaves("<p><b></p><span a", "<p><b></b></p>", "0", "2");
        Check.sentence("if there is no closing DQ, the tag is dropped and the input ends");
        String[] values = {"<b a=\"", "<b a=\"v", "<b a=\">", "<b a=\"v>y", "<b a=\"v' c", "<b a=\"\"c=\"", "<b a a=\"v>", "<zz a=\"v>y"};
        for (String scrap : values) {
            atTheEnd(scrap, "\">", "");
        }
        Check.leaves("x<b a=\"<i>y</i>z", "x", "0", "");
        Check.leaves("<b a=\"" + "v".repeat(250), "", "0", "");
        Check.leaves("<p>x<p a=\">y", "<p>x</p>", "0 1", "");
    }

    private static void t4Attributes() {
        Check.sentence("Its name is the longest run of letters after the '<', folded.");
        hasAttributes("<b>x", "", "x");
        hasAttributes("<b/i>x", " i=\"\"", "x");
        hasAttributes("<b<i>x", " i=\"\"", "x");
        Check.sentence("at '>', it is used up and the tag is complete");
        hasAttributes("<b>>x", "", ">x");
        hasAttributes("<b a>>x", " a=\"\"", ">x");
        Check.sentence("the value is the characters after that DQ up to the next DQ, and everything through the closing DQ is used up");
        hasAttributes("<b a=\"\">x", " a=\"\"", "x");
        hasAttributes("<b a=\"\"\">x", " a=\"\"", "x");
        hasAttributes("<b a=\"v\"c>x", " a=\"v\" c=\"\"", "x");
        hasAttributes("<b a=\">\">x", " a=\">\"", "x");
        hasAttributes("<b a=\"</b>\n\t\">x", " a=\"</b>\n\t\"", "x");
        hasAttributes("<b a=\"" + "v".repeat(248) + "\">", " a=\"" + "v".repeat(248) + "\"", "");
        Check.sentence("Else, if the next character is '=', only the '=' is used up and the value is empty.");
        hasAttributes("<b a=>x", " a=\"\"", "x");
        hasAttributes("<b a=c>x", " a=\"\" c=\"\"", "x");
        hasAttributes("<b a=a>x", " a=\"\"", "x");
        hasAttributes("<b a=='c'>x", " a=\"\" c=\"\"", "x");
        hasAttributes("<b a==\"c>d\">x", " a=\"\" c=\"\"", "d\">x");
        hasAttributes("<b a= \"c>d\">x", " a=\"\" c=\"\"", "d\">x");
        Check.sentence("Otherwise the value is empty.");
        hasAttributes("<b a>x", " a=\"\"", "x");
        hasAttributes("<b a =\"c>d\">x", " a=\"\" c=\"\"", "d\">x");
        hasAttributes("<b a\"c\">x", " a=\"\" c=\"\"", "x");
        Check.sentence("At any other character: it is used up and ignored.");
        hasAttributes("<b \"=/ 1&<!-@[`{\t\n>x", "", "x");
        hasAttributes("<b \">\">x", "", "\">x");
        hasAttributes("<b =\"c\">x", " c=\"\"", "x");
        hasAttributes("<b" + " ".repeat(253) + ">", "", "");
    }

    private static void t4ThrownAway() {
        Check.sentence("An attribute whose name equals that of an attribute already kept for this tag is thrown away; "
            + "the others are kept in order.");
        hasAttributes("<b a a>x", " a=\"\"", "x");
        hasAttributes("<b a=\"1\" a=\"2\">x", " a=\"1\"", "x");
        hasAttributes("<b a A=\"2\">x", " a=\"\"", "x");
        hasAttributes("<b A=\"1\" a=\"2\" A=\"3\">x", " a=\"1\"", "x");
        hasAttributes("<b z=\"1\" y z=\"2\" x y=\"3\" w>x", " z=\"1\" y=\"\" x=\"\" w=\"\"", "x");
        hasAttributes("<b a aa aaa aa a>x", " a=\"\" aa=\"\" aaa=\"\"", "x");
        hasAttributes("<b ab ac bc ab bc>x", " ab=\"\" ac=\"\" bc=\"\"", "x");
        hasAttributes("<b a=\"1\" a=\">\">x", " a=\"1\"", "x");
        hasAttributes("<b" + " a".repeat(126) + ">", " a=\"\"", "");
        hasAttributes("<b b>x", " b=\"\"", "x");
        // What one tag keeps does not count for the next one.
        Check.prints("<b a=\"1\"><i a=\"2\"><x a=\"3\"><u a=\"4\">",
            "<b a=\"1\"><i a=\"2\"><u a=\"4\"></u></i></b>");
        // Thrown away, it takes no room: 16 characters are all there is.
        MarkupTreeBuilder x = Check.ends("<b abcdefghijkl ABCDEFGHIJKL=\"yyyyyyyyyyyyyyyyyyyy\">", 8, 16, MarkupTreeBuilder.DONE,
            "<b abcdefghijkl=\"\"></b>", "0 1", "1");
        Check.due("dataLength(1)", x.dataLength(1), 16);
    }

    private static void t5() {
        Check.sentence("otherwise (a '<' that starts none of T2..T4): a TEXT character standing for '<', 1 used up");
        String[] themselves = {"<", "<<", "<>", "</>", "< b>", "</ b>", "<1>", "</1>", "<!", "<!-", "<!>", "<!->", "<!-x-->", "<! -- x",
            "<!x--", "<-", "<?b>", "<=", "<\"b\">", "</", "<//b>", "</!--x-->", "<\n", "</\t", "<;", "<&"};
        for (String markup : themselves) {
            isText(markup, markup);
        }
        Check.prints("<<b>x", "&lt;<b>x</b>");
        Check.prints("<</p>x", "&lt;<p></p>x");
        Check.prints("<<!--c-->", "&lt;<!--c-->");
        Check.prints("<!<b>", "&lt;!<b></b>");
        Check.prints("<!-<!--c-->", "&lt;!-<!--c-->");
        isText("<&lt;", "<<");
        atTheEnd("<", "b>", "&lt;");
        atTheEnd("<", "/p>", "&lt;");
        atTheEnd("<", "!--x-->", "&lt;");
        atTheEnd("</", "p>", "&lt;/");
        atTheEnd("<!", "--x-->", "&lt;!");
        atTheEnd("<!-", "-x-->", "&lt;!-");
        atTheEnd("<<", "b>", "&lt;&lt;");
    }

    private static void neverDecoded() {
        Check.sentence("The ATTRIBUTE TEXT of a start tag is, for each kept attribute in order: ' ', name, '=', DQ, value, DQ.");
        hasAttributes("<b>x", "", "x");
        hasAttributes("<b   a  ,  c  >x", " a=\"\" c=\"\"", "x");
        Check.sentence("Attribute values and comments are never decoded.");
        hasAttributes("<b a=\"&lt;&amp;<\">&lt;&amp;", " a=\"&lt;&amp;<\"", "<&");
        isComment("<!--&amp;&lt;<-->&amp;", "&amp;&lt;<", "&");
        Check.prints("<b a=\"&lt;&amp;<&\"><!--&lt;&amp;<&-->&lt;&amp;",
            "<b a=\"&lt;&amp;<&\"><!--&lt;&amp;<&-->&lt;&amp;</b>");
    }

    public static void main(String[] args) {
        letters();
        folding();
        unknownNames();
        t1();
        t2();
        t3();
        t4Dropped();
        t4Attributes();
        t4ThrownAway();
        t5();
        neverDecoded();
        Check.end();
    }
}
