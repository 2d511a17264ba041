import java.util.LinkedHashMap;
import java.util.Map;

/** Promises 5 to 13 and their boundary cases, in every status, a sentence of the document at a time. */
public final class Boundary05To13ReadersTest {
    private static final int[] NEVER = {-1, -2, -3, -64, -65, -256, -65536, Integer.MIN_VALUE, Integer.MIN_VALUE + 1, 20000, 65536,
        Integer.MAX_VALUE - 1, Integer.MAX_VALUE};

    /** An object in each of the states that can be told apart. */
    private static Map<String, MarkupTreeBuilder> states() {
        Map<String, MarkupTreeBuilder> states = new LinkedHashMap<>();
        states.put("a new object", Check.large());
        states.put("a fed object", Check.feed(Check.large(), "<b a=\"1\">x<object>"));
        MarkupTreeBuilder empty = new MarkupTreeBuilder(16, 8, 16);
        empty.parse();
        states.put("DONE of an empty input", empty);
        states.put("DONE", Check.parsed("<b a=\"1\">x<object><i>y<p>&lt;</i><!--z--><br>"));
        states.put("DONE with all nodes", Check.parsed("<b>".repeat(63)));
        states.put("DONE with as much text as there can be", Check.parsed("&".repeat(256)));
        states.put("FULL for nodes", Check.full("<b>" + "<br>".repeat(7), 8, 16));
        states.put("FULL for the first tag", Check.full("<b abcdefghijklm>", 8, 16));
        states.put("FULL in an adoption", Check.full("<b a><i c><u d><div>" + "<br>".repeat(2) + "</b>", 8, 16));
        MarkupTreeBuilder reset = Check.parsed("<b a=\"1\">x<object>");
        reset.reset();
        states.put("a reset object", reset);
        return states;
    }

    private static void status() {
        Check.sentence("status() answers the current status: NOT_PARSED, DONE or FULL.");
        for (Map.Entry<String, MarkupTreeBuilder> state : states().entrySet()) {
            String told = state.getKey();
            int due = told.startsWith("DONE") ? 1 : told.startsWith("FULL") ? 2 : 0;
            Check.due("status() of " + told, state.getValue().status(), due);
        }
        Check.due("NOT_PARSED", MarkupTreeBuilder.NOT_PARSED, 0);
        Check.due("DONE", MarkupTreeBuilder.DONE, 1);
        Check.due("FULL", MarkupTreeBuilder.FULL, 2);
    }

    private static void nodeCount() {
        Check.sentence("nodeCount() answers the number of nodes, ROOT included (at least 1).");
        int[] due = {1, 1, 1, 11, 64, 2, 8, 1, 8, 1};
        int i = 0;
        for (Map.Entry<String, MarkupTreeBuilder> state : states().entrySet()) {
            Check.due("nodeCount() of " + state.getKey(), state.getValue().nodeCount(), due[i]);
            i++;
        }
        Check.due("nodeCount() after ignored tags", Check.parsed("</b><zz></div>").nodeCount(), 1);
        Check.due("nodeCount() after a dropped tag", Check.parsed("<b a=\"").nodeCount(), 1);
        // What left the stack and the list, or has lost all its children, is a node all the same.
        Check.due("nodeCount() after an adoption", Check.parsed("<b><p></b>").nodeCount(), 4);
    }

    private static void outOfRangeNodes(String told, MarkupTreeBuilder x, int n) {
        Check.sentence("nodeKind(n): -1 if n < 0 or n >= nodeCount()");
        Check.due("nodeKind(" + n + ") of " + told, x.nodeKind(n), -1);
        Check.sentence("nodeParent(n): -1 when n is out of range");
        Check.due("nodeParent(" + n + ") of " + told, x.nodeParent(n), -1);
        Check.sentence("nodeChild(n, k): -1 if n is out of range");
        int[] ks = {0, 1, -1, n, Integer.MAX_VALUE, Integer.MIN_VALUE};
        for (int k : ks) {
            Check.due("nodeChild(" + n + ", " + k + ") of " + told, x.nodeChild(n, k), -1);
        }
        Check.sentence("dataLength(n): -1 if n is out of range");
        Check.due("dataLength(" + n + ") of " + told, x.dataLength(n), -1);
        Check.sentence("dataChar(n, k): character 0 if n or k is out of range");
        for (int k : ks) {
            Check.due("dataChar(" + n + ", " + k + ") of " + told, x.dataChar(n, k), 0);
        }
    }

    private static void outOfRangeInside(String told, MarkupTreeBuilder x, int n) {
        int children = Check.children(x, n).isEmpty() ? 0 : Check.children(x, n).split(" ").length;
        int length = x.dataLength(n);
        Check.sentence("nodeChild(n, k): -1 if k < 0, or k is not less than n's number of children");
        for (int k : NEVER) {
            Check.due("nodeChild(" + n + ", " + k + ") of " + told, x.nodeChild(n, k), -1);
        }
        for (int k = children; k < 70; k++) {
            Check.due("nodeChild(" + n + ", " + k + ") of " + told, x.nodeChild(n, k), -1);
        }
        Check.sentence("dataChar(n, k): character 0 if n or k is out of range");
        for (int k : NEVER) {
            Check.due("dataChar(" + n + ", " + k + ") of " + told, x.dataChar(n, k), 0);
        }
        for (int k = length; k < 520; k++) {
            Check.due("dataChar(" + n + ", " + k + ") of " + told, x.dataChar(n, k), 0);
        }
    }

    private static void outOfRangePositions(String told, MarkupTreeBuilder x, int i) {
        Check.sentence("stackNode(i): -1 if i is out of range");
        if (i < 0 || i >= x.stackSize()) {
            Check.due("stackNode(" + i + ") of " + told, x.stackNode(i), -1);
        }
        Check.sentence("listEntry(i): -2 if i is out of range");
        if (i < 0 || i >= x.listSize()) {
            Check.due("listEntry(" + i + ") of " + told, x.listEntry(i), -2);
        }
        Check.sentence("serialChar(k): character 0 if k < 0 or k >= serialLength()");
        if (i < 0 || i >= x.serialLength()) {
            Check.due("serialChar(" + i + ") of " + told, x.serialChar(i), 0);
        }
    }

    private static void outOfRange() {
        for (Map.Entry<String, MarkupTreeBuilder> state : states().entrySet()) {
            String told = state.getKey();
            MarkupTreeBuilder x = state.getValue();
            String before = Check.everything(x);
            for (int index : NEVER) {
                outOfRangeNodes(told, x, index);
                outOfRangePositions(told, x, index);
            }
            for (int n = x.nodeCount(); n < 70; n++) {
                outOfRangeNodes(told, x, n);
            }
            for (int n = 0; n < x.nodeCount(); n++) {
                outOfRangeInside(told, x, n);
            }
            for (int i = 0; i < 20010; i++) {
                outOfRangePositions(told, x, i);
            }
            Check.sentence("It changes nothing. / Neither changes anything.");
            Check.due(told + " after all the questions", Check.everything(x), before);
        }
    }

    /** The questions asked of a fed object change neither its input nor what the parse makes of it. */
    private static void beforeTheParse() {
        Check.sentence("It changes nothing. / Neither changes anything.");
        String markup = "<b a>1<p>2</b>3<object><!--4-->";
        MarkupTreeBuilder asked = Check.large();
        for (int i = 0; i < markup.length(); i++) {
            Check.due("feed after the questions", asked.feed(markup.charAt(i)), true);
            Check.everything(asked);
            asked.serialChar(-1);
            asked.nodeChild(0, 0);
            asked.dataChar(0, 0);
            asked.listEntry(0);
        }
        Check.due("parse() after the questions", asked.parse(), MarkupTreeBuilder.DONE);
        Check.due("the object that was asked", Check.everything(asked), Check.everything(Check.parsed(markup)));
    }

    private static void root() {
        for (Map.Entry<String, MarkupTreeBuilder> state : states().entrySet()) {
            String told = state.getKey();
            MarkupTreeBuilder x = state.getValue();
            Check.sentence("nodeKind(n) answers the kind of node n");
            Check.due("nodeKind(0) of " + told, x.nodeKind(0), MarkupTreeBuilder.ROOT);
            Check.sentence("nodeParent(n): -1 for ROOT");
            Check.due("nodeParent(0) of " + told, x.nodeParent(0), -1);
            Check.sentence("dataLength(n) answers the length of node n's data (ROOT: 0)");
            Check.due("dataLength(0) of " + told, x.dataLength(0), 0);
            Check.due("dataChar(0, 0) of " + told, x.dataChar(0, 0), 0);
            Check.sentence("stackNode(i) answers the node at stack position i (0 = bottom)");
            Check.due("stackNode(0) of " + told, x.stackNode(0), 0);
        }
    }

    private static void neverGivenAParent() {
        Check.sentence("nodeParent(n): -1 for a node that was never given a parent because the parse stopped with FULL before that");
        MarkupTreeBuilder x = Check.full("<b a><i c><u d><div>" + "<br>".repeat(2) + "</b>", 8, 16);
        Check.due("nodeParent(7)", x.nodeParent(7), -1);
        Check.due("nodeKind(7)", x.nodeKind(7), MarkupTreeBuilder.U);
        Check.due("data of 7", Check.data(x, 7), " d=\"\"");
        Check.due("children of 7", Check.children(x, 7), "4");
        Check.due("nodeParent(4)", x.nodeParent(4), 7);
        Check.due("children of ROOT", Check.children(x, 0), "1");
        Check.due("children of 3", Check.children(x, 3), "");
        int parentless = 0;
        for (int n = 0; n < x.nodeCount(); n++) {
            parentless += x.nodeParent(n) == -1 ? 1 : 0;
        }
        Check.due("nodes without a parent, ROOT among them", parentless, 2);
        // Where nothing stopped between the node and its parent, every node but ROOT has one.
        MarkupTreeBuilder[] others = {Check.full("<b><i><div>" + "<br>".repeat(3) + "</b>", 8, 16),
            Check.full("<p><b><i><u><s></p>x", 8, 16), Check.full("<br>".repeat(8), 8, 16), Check.parsed("<b><i><u><div></b>")};
        for (MarkupTreeBuilder other : others) {
            for (int n = 1; n < other.nodeCount(); n++) {
                Check.due("node " + n + " has a parent", other.nodeParent(n) >= 0, true);
            }
        }
    }

    private static void firstAndLast() {
        MarkupTreeBuilder x = Check.parsed("<b a=\"1\">xyz<br><!--c--></b>");
        Check.sentence("nodeKind(n) answers the kind of node n");
        Check.due("nodeKind of the last node", x.nodeKind(4), MarkupTreeBuilder.COMMENT);
        Check.due("nodeKind after the last node", x.nodeKind(5), -1);
        Check.sentence("nodeChild(n, k) answers child number k (0 = first) of node n");
        Check.due("first child", x.nodeChild(1, 0), 2);
        Check.due("last child", x.nodeChild(1, 2), 4);
        Check.due("child after the last", x.nodeChild(1, 3), -1);
        Check.due("child of a TEXT", x.nodeChild(2, 0), -1);
        Check.due("child of a BR", x.nodeChild(3, 0), -1);
        Check.due("child of a COMMENT", x.nodeChild(4, 0), -1);
        Check.sentence("dataChar(n, k) answers character k (0 = first) of node n's data");
        Check.due("first character", x.dataChar(2, 0), 'x');
        Check.due("last character", x.dataChar(2, 2), 'z');
        Check.due("character after the last", x.dataChar(2, 3), 0);
        Check.due("first character of attribute text", x.dataChar(1, 0), ' ');
        Check.due("last character of attribute text", x.dataChar(1, 5), '"');
        Check.due("character after it", x.dataChar(1, 6), 0);
        Check.due("character of an empty attribute text", x.dataChar(3, 0), 0);
        Check.due("length of an empty attribute text", x.dataLength(3), 0);
        Check.due("character of a content", x.dataChar(4, 0), 'c');
        Check.due("length of an empty content", Check.parsed("<!---->").dataLength(1), 0);
        Check.due("character of an empty content", Check.parsed("<!---->").dataChar(1, 0), 0);
        MarkupTreeBuilder most = Check.parsed("<br>".repeat(63));
        Check.due("last of as many children as there can be", most.nodeChild(0, 62), 63);
        Check.due("the one after it", most.nodeChild(0, 63), -1);
        MarkupTreeBuilder text = Check.parsed("x".repeat(255) + "y");
        Check.due("last character of the longest text", text.dataChar(1, 255), 'y');
        Check.due("the one after it", text.dataChar(1, 256), 0);
    }

    private static void stackAndList() {
        Check.sentence("stackSize() answers the number of stack entries.");
        Check.due("stackSize() of a new object", Check.large().stackSize(), 1);
        MarkupTreeBuilder most = Check.parsed("<b>".repeat(63));
        Check.due("stackSize() of all nodes", most.stackSize(), 64);
        Check.due("stackNode(63)", most.stackNode(63), 63);
        Check.due("stackNode(64)", most.stackNode(64), -1);
        Check.sentence("listSize() answers the number of list entries, MARKERs included.");
        Check.due("listSize() of a new object", Check.large().listSize(), 0);
        Check.due("listSize() of a MARKER alone", Check.parsed("<object>").listSize(), 1);
        Check.due("listSize() after the MARKER left", Check.parsed("<object></object>").listSize(), 0);
        Check.due("listSize() with two MARKERs", Check.parsed("<b><object><i><object>").listSize(), 4);
        Check.sentence("listEntry(i): its node, -1 for a MARKER, -2 if i is out of range");
        MarkupTreeBuilder x = Check.parsed("<b><object><i><object>");
        int[] due = {1, -1, 3, -1, -2, -2};
        for (int i = 0; i < due.length; i++) {
            Check.due("listEntry(" + i + ")", x.listEntry(i), due[i]);
        }
        Check.due("listEntry(-1)", x.listEntry(-1), -2);
        Check.due("listEntry(0) of a MARKER alone", Check.parsed("<object>").listEntry(0), -1);
        Check.due("listEntry(0) of an empty list", Check.large().listEntry(0), -2);
        Check.due("listEntry(0) after the MARKER left", Check.parsed("<object></object>").listEntry(0), -2);
        StringBuilder names = new StringBuilder();
        for (int i = 0; i < 51; i++) {
            names.append("<").append("bius".charAt(i % 4)).append(' ').append((char) ('a' + i / 4)).append('>');
        }
        MarkupTreeBuilder longest = Check.parsed(names.toString());
        Check.due("listSize() of as many as the attribute text allows", longest.listSize(), 51);
        Check.due("its last entry", longest.listEntry(50), 51);
        Check.due("the one after it", longest.listEntry(51), -2);
    }

    private static void serialization() {
        Check.sentence("serialLength() answers the length of the serialization of the current tree (0 for ROOT alone).");
        String[] due = {"", "", "", "<b a=\"1\">x<object><i>y</i><p><i>&lt;</i><!--z--><br></p></object></b>",
            "<b>".repeat(63) + "</b>".repeat(63), "&amp;".repeat(256), "<b>" + "<br>".repeat(6) + "</b>", "",
            "<b a=\"\"><i c=\"\"><u d=\"\"></u></i></b>", ""};
        int i = 0;
        for (Map.Entry<String, MarkupTreeBuilder> state : states().entrySet()) {
            Check.due("serialLength() of " + state.getKey(), state.getValue().serialLength(), due[i].length());
            Check.due("serialization of " + state.getKey(), Check.serial(state.getValue()), due[i]);
            i++;
        }
        Check.due("serialLength() of ignored tags", Check.parsed("</b><zz>").serialLength(), 0);
        Check.due("serialLength() of an empty element", Check.parsed("<b>").serialLength(), 7);
        Check.due("serialLength() of one character", Check.parsed("x").serialLength(), 1);
        Check.due("serialLength() of a '<'", Check.parsed("<").serialLength(), 4);
        Check.due("serialLength() of a '&'", Check.parsed("&").serialLength(), 5);
        Check.due("serialLength() of an empty comment", Check.parsed("<!--").serialLength(), 7);
        Check.sentence("serialChar(k) answers character k (0 = first) of the serialization");
        MarkupTreeBuilder x = Check.parsed("<br>y");
        String text = "<br>y";
        for (int k = 0; k < text.length(); k++) {
            Check.due("serialChar(" + k + ")", x.serialChar(k), text.charAt(k));
        }
        Check.due("serialChar(5)", x.serialChar(5), 0);
        Check.due("serialChar(0) of ROOT alone", Check.large().serialChar(0), 0);
        Check.sentence("The serialization of the tree is the serialization of ROOT's children in order");
        MarkupTreeBuilder full = Check.full("<b a><i c><u d><div>" + "<br>".repeat(2) + "</b>", 8, 16);
        Check.due("serialization without the nodes that hang on a parentless one", Check.serial(full),
            "<b a=\"\"><i c=\"\"><u d=\"\"></u></i></b>");
    }

    private static void serializationOfEachKind() {
        Check.sentence("an element not of kind BR gives '<', name, attribute text, '>', its children in order, '<', '/', name, '>'");
        String[] names = {"b", "i", "u", "em", "s", "span", "div", "p", "ul", "li", "object"};
        for (String name : names) {
            Check.prints("<" + name + ">", "<" + name + "></" + name + ">");
            Check.prints("<" + name + " a=\"1\">x<br>y", "<" + name + " a=\"1\">x<br>y</" + name + ">");
        }
        Check.sentence("BR gives '<','b','r', attribute text, '>'");
        Check.prints("<br>", "<br>");
        Check.prints("<br a=\"<&\" b>", "<br a=\"<&\" b=\"\">");
        Check.prints("</br a>", "<br>");
        Check.sentence("with each '<' written as '&','l','t',';' and each '&' written as '&','a','m','p',';'");
        Check.prints("<", "&lt;");
        Check.prints("&", "&amp;");
        Check.prints("&lt;&amp;", "&lt;&amp;");
        Check.prints("&amp;lt;", "&amp;lt;");
        Check.prints("<&<&", "&lt;&amp;&lt;&amp;");
        Check.prints(">\"'\t\n-->", ">\"'\t\n-->");
        Check.prints("<".repeat(256), "&lt;".repeat(256));
        Check.prints("&".repeat(256), "&amp;".repeat(256));
        Check.sentence("a COMMENT gives '<','!','-','-', content, '-','-','>'");
        Check.prints("<!--", "<!---->");
        Check.prints("<!--<&-", "<!--<&--->");
        Check.prints("<!--" + "x".repeat(252), "<!--" + "x".repeat(252) + "-->");
    }

    /** Long attribute text that is cloned again and again. */
    private static void longSerialization() {
        Check.sentence("serialLength() answers the length of the serialization of the current tree");
        String open = "<b a=\"" + "v".repeat(120) + "\">";
        String markup = "<p>" + open + "<p>x".repeat(20) + "<div>".repeat(8) + "</b>";
        MarkupTreeBuilder x = Check.feed(Check.large(), markup);
        Check.due("parse() of many clones", x.parse(), MarkupTreeBuilder.FULL);
        Check.due("nodeCount() of many clones", x.nodeCount(), 64);
        String due = Check.everything(new ReferenceTree(markup, 64, 256));
        Check.due("the object with many clones", Check.everything(x), due);
        String deep = "<object>".repeat(30);
        Check.prints(deep, deep + "</object>".repeat(30));
    }

    public static void main(String[] args) {
        status();
        nodeCount();
        outOfRange();
        beforeTheParse();
        root();
        neverGivenAParent();
        firstAndLast();
        stackAndList();
        serialization();
        serializationOfEachKind();
        longSerialization();
        Check.end();
    }
}
