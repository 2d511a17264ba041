import java.util.StringJoiner;

/** What the tests share: feeding, reading back as text, and counting the answers that are wrong. */
final class Check {
    private static int asked = 0;
    private static int wrong = 0;
    private static String sentence = "";

    private Check() {
    }

    /** Names the words of the document by which the answers asked from here on are due. */
    static void sentence(String words) {
        sentence = "'" + words + "': ";
    }

    static void due(String what, long got, long want) {
        due(what, Long.toString(got), Long.toString(want));
    }

    static void due(String what, boolean got, boolean want) {
        due(what, Boolean.toString(got), Boolean.toString(want));
    }

    static void due(String what, String got, String want) {
        asked++;
        if (!got.equals(want)) {
            wrong++;
            System.out.println(sentence + what + " answered " + got + ", due is " + want);
        }
    }

    static void end() {
        System.out.println(asked - wrong + " of " + asked + " answers are as due");
        if (wrong != 0) {
            System.exit(1);
        }
    }

    static MarkupTreeBuilder large() {
        return new MarkupTreeBuilder(256, 64, 256);
    }

    static MarkupTreeBuilder feed(MarkupTreeBuilder x, String markup) {
        for (int i = 0; i < markup.length(); i++) {
            due("feed of character " + i + " of " + markup, x.feed(markup.charAt(i)), true);
        }
        return x;
    }

    static MarkupTreeBuilder parsed(String markup) {
        MarkupTreeBuilder x = feed(large(), markup);
        due("parse() of " + markup, x.parse(), MarkupTreeBuilder.DONE);
        return x;
    }

    /** Parses with room for nodeCap nodes and attrCap characters of attribute text, and is due to stop. */
    static MarkupTreeBuilder full(String markup, int nodeCap, int attrCap) {
        MarkupTreeBuilder x = feed(new MarkupTreeBuilder(256, nodeCap, attrCap), markup);
        due("parse() of " + markup, x.parse(), MarkupTreeBuilder.FULL);
        return x;
    }

    /** Parses with these capacities, is due to answer the status, and leaves this serialization, stack and list. */
    static MarkupTreeBuilder ends(String markup, int nodeCap, int attrCap, int status,
            String serialization, String stack, String list) {
        MarkupTreeBuilder x = feed(new MarkupTreeBuilder(256, nodeCap, attrCap), markup);
        String told = markup + " with " + nodeCap + " nodes and " + attrCap + " attribute text";
        due("parse() of " + told, x.parse(), status);
        due("status() after " + told, x.status(), status);
        due("serialization of " + told, serial(x), serialization);
        due("stack after " + told, stack(x), stack);
        due("list after " + told, list(x), list);
        return x;
    }

    /** A start tag whose attribute text has the length (4 or less: none), in at most 256 characters of input. */
    static String tagWithText(String name, int length) {
        StringBuilder tag = new StringBuilder("<").append(name);
        int left = length;
        for (char c = 'a'; c <= 'z' && left >= 20; c++) {
            tag.append(' ').append(c);
            left -= 5;
        }
        for (char c = 'a'; c <= 'z' && left >= 20; c++) {
            tag.append(" a").append(c);
            left -= 6;
        }
        if (left > 4) {
            tag.append(' ').append("z".repeat(left - 4));
        }
        return tag.append('>').toString();
    }

    /** The markup, parsed, prints as the serialization. */
    static MarkupTreeBuilder prints(String markup, String serialization) {
        MarkupTreeBuilder x = parsed(markup);
        due("serialization of " + markup, serial(x), serialization);
        return x;
    }

    /** The same, and it leaves this stack and this list. */
    static void leaves(String markup, String serialization, String stack, String list) {
        MarkupTreeBuilder x = prints(markup, serialization);
        due("stack after " + markup, stack(x), stack);
        due("list after " + markup, list(x), list);
    }

    static String serial(MarkupTreeBuilder x) {
        StringBuilder out = new StringBuilder();
        for (int k = 0; k < x.serialLength(); k++) {
            out.append(x.serialChar(k));
        }
        return out.toString();
    }

    static String data(MarkupTreeBuilder x, int n) {
        StringBuilder out = new StringBuilder();
        for (int k = 0; k < x.dataLength(n); k++) {
            out.append(x.dataChar(n, k));
        }
        return out.toString();
    }

    static String stack(MarkupTreeBuilder x) {
        StringJoiner out = new StringJoiner(" ");
        for (int i = 0; i < x.stackSize(); i++) {
            out.add(Integer.toString(x.stackNode(i)));
        }
        return out.toString();
    }

    /** A MARKER is written as |. */
    static String list(MarkupTreeBuilder x) {
        StringJoiner out = new StringJoiner(" ");
        for (int i = 0; i < x.listSize(); i++) {
            out.add(x.listEntry(i) == -1 ? "|" : Integer.toString(x.listEntry(i)));
        }
        return out.toString();
    }

    static String children(MarkupTreeBuilder x, int n) {
        StringJoiner out = new StringJoiner(" ");
        for (int k = 0; x.nodeChild(n, k) != -1; k++) {
            out.add(Integer.toString(x.nodeChild(n, k)));
        }
        return out.toString();
    }

    /** Every answer that the object can give, in one text. */
    static String everything(MarkupTreeBuilder x) {
        StringBuilder out = new StringBuilder();
        out.append("status ").append(x.status()).append(" nodes ").append(x.nodeCount());
        for (int n = 0; n < x.nodeCount(); n++) {
            out.append("\n ").append(n).append(" kind ").append(x.nodeKind(n));
            out.append(" parent ").append(x.nodeParent(n)).append(" children [").append(children(x, n));
            out.append("] data ").append(x.dataLength(n)).append(" [").append(data(x, n)).append("]");
        }
        out.append("\n stack ").append(stack(x)).append("\n list ").append(list(x));
        return out.append("\n serialization ").append(serial(x)).toString();
    }

    /** What everything() is due to be, by the reference. */
    static String everything(ReferenceTree x) {
        StringBuilder out = new StringBuilder();
        out.append("status ").append(x.status).append(" nodes ").append(x.nodes.size());
        for (ReferenceTree.Node node : x.nodes) {
            StringJoiner children = new StringJoiner(" ");
            node.children.forEach(child -> children.add(Integer.toString(child.number)));
            out.append("\n ").append(node.number).append(" kind ").append(node.kind);
            out.append(" parent ").append(node.parent == null ? -1 : node.parent.number);
            out.append(" children [").append(children).append("] data ").append(node.data.length());
            out.append(" [").append(node.data).append("]");
        }
        StringJoiner stack = new StringJoiner(" ");
        x.stack.forEach(node -> stack.add(Integer.toString(node.number)));
        StringJoiner list = new StringJoiner(" ");
        x.list.forEach(node -> list.add(node == null ? "|" : Integer.toString(node.number)));
        out.append("\n stack ").append(stack).append("\n list ").append(list);
        return out.append("\n serialization ").append(x.serialization()).toString();
    }
}
