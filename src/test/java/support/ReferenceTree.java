import java.util.ArrayList;
import java.util.List;

/**
 * A second reading of the document, with strings, lists and an exception for FULL, written step by
 * step in the document's words. The tests hold MarkupTreeBuilder against it on many inputs.
 */
final class ReferenceTree {
    private static final String[] NAMES = {
        "", "b", "i", "u", "em", "s", "span", "div", "p", "ul", "li", "object", "br"};

    private static final class Full extends RuntimeException {
        private static final long serialVersionUID = 1L;
    }

    static final class Node {
        final int number;
        final int kind;
        Node parent;
        final List<Node> children = new ArrayList<>();
        final StringBuilder data = new StringBuilder();

        Node(int number, int kind) {
            this.number = number;
            this.kind = kind;
        }
    }

    private final String input;
    private final int nodeCap;
    private final int attrCap;
    private int attrStored = 0;
    int status;
    final List<Node> nodes = new ArrayList<>();
    final List<Node> stack = new ArrayList<>();
    /** A MARKER is null. */
    final List<Node> list = new ArrayList<>();

    ReferenceTree(String input, int nodeCap, int attrCap) {
        this.input = input;
        this.nodeCap = nodeCap;
        this.attrCap = attrCap;
        nodes.add(new Node(0, MarkupTreeBuilder.ROOT));
        stack.add(nodes.get(0));
        try {
            tokenize();
            status = MarkupTreeBuilder.DONE;
        } catch (Full stop) {
            status = MarkupTreeBuilder.FULL;
        }
    }

    // ---- Tokenizer ----

    private static boolean letter(char c) {
        return "abcdefghijklmnopqrstuvwxyzABCDEFGHIJKLMNOPQRSTUVWXYZ".indexOf(c) >= 0;
    }

    private String lettersAt(int at) {
        int end = at;
        while (end < input.length() && letter(input.charAt(end))) {
            end++;
        }
        return input.substring(at, end);
    }

    private static int kindNamed(String name) {
        for (int kind = 1; kind < NAMES.length; kind++) {
            if (NAMES[kind].equals(name.toLowerCase(java.util.Locale.ROOT))) {
                return kind;
            }
        }
        return -1;
    }

    private void tokenize() {
        int at = 0;
        while (at < input.length()) {
            if (input.charAt(at) != '<') {
                if (input.startsWith("&lt;", at)) {
                    text('<');
                    at += 4;
                } else if (input.startsWith("&amp;", at)) {
                    text('&');
                    at += 5;
                } else {
                    text(input.charAt(at));
                    at += 1;
                }
            } else if (input.startsWith("<!--", at)) {
                int end = input.indexOf("-->", at + 4);
                comment(end < 0 ? input.substring(at + 4) : input.substring(at + 4, end));
                at = end < 0 ? input.length() : end + 3;
            } else if (input.startsWith("</", at) && !lettersAt(at + 2).isEmpty()) {
                int end = input.indexOf('>', at);
                if (end < 0) {
                    return;
                }
                endTag(kindNamed(lettersAt(at + 2)));
                at = end + 1;
            } else if (!lettersAt(at + 1).isEmpty()) {
                at = startTagAt(at + 1);
            } else {
                text('<');
                at += 1;
            }
        }
    }

    /** Answers where the reading goes on. */
    private int startTagAt(int start) {
        String name = lettersAt(start);
        int at = start + name.length();
        List<String> kept = new ArrayList<>();
        StringBuilder attributes = new StringBuilder();
        while (at < input.length() && input.charAt(at) != '>') {
            String attribute = lettersAt(at);
            if (attribute.isEmpty()) {
                at++;
                continue;
            }
            at += attribute.length();
            String value = "";
            if (input.startsWith("=\"", at)) {
                int close = input.indexOf('"', at + 2);
                if (close < 0) {
                    return input.length();
                }
                value = input.substring(at + 2, close);
                at = close + 1;
            } else if (input.startsWith("=", at)) {
                at++;
            }
            String folded = attribute.toLowerCase(java.util.Locale.ROOT);
            if (!kept.contains(folded)) {
                kept.add(folded);
                attributes.append(" " + folded + "=\"" + value + "\"");
            }
        }
        if (at >= input.length()) {
            return input.length();
        }
        int kind = kindNamed(name);
        if (kind >= 0) {
            if (attributes.length() > attrCap - attrStored) {
                throw new Full();
            }
            attrStored += attributes.length();
            startTag(kind, attributes.toString());
        }
        return at + 1;
    }

    // ---- Common steps ----

    private Node create(int kind, String data) {
        if (nodes.size() == nodeCap) {
            throw new Full();
        }
        Node node = new Node(nodes.size(), kind);
        node.data.append(data);
        nodes.add(node);
        return node;
    }

    private static void append(Node x, Node y) {
        if (x.parent != null) {
            x.parent.children.remove(x);
        }
        y.children.add(x);
        x.parent = y;
    }

    private Node current() {
        return stack.get(stack.size() - 1);
    }

    private Node pop() {
        return stack.remove(stack.size() - 1);
    }

    private boolean inScope(int kind, boolean listItem) {
        for (int i = stack.size() - 1; ; i--) {
            int seen = stack.get(i).kind;
            if (seen == kind) {
                return true;
            }
            if (seen == MarkupTreeBuilder.ROOT || seen == MarkupTreeBuilder.OBJECT) {
                return false;
            }
            if (listItem && seen == MarkupTreeBuilder.UL) {
                return false;
            }
        }
    }

    private boolean inScope(Node node) {
        for (int i = stack.size() - 1; ; i--) {
            Node seen = stack.get(i);
            if (seen == node) {
                return true;
            }
            if (seen.kind == MarkupTreeBuilder.ROOT || seen.kind == MarkupTreeBuilder.OBJECT) {
                return false;
            }
        }
    }

    private void impliedEndTags(int except) {
        while ((current().kind == MarkupTreeBuilder.P || current().kind == MarkupTreeBuilder.LI)
            && current().kind != except) {
            pop();
        }
    }

    private void popUntil(int kind) {
        while (pop().kind != kind) {
            continue;
        }
    }

    private void popUntil(Node node) {
        while (pop() != node) {
            continue;
        }
    }

    private void closeP() {
        impliedEndTags(MarkupTreeBuilder.P);
        popUntil(MarkupTreeBuilder.P);
    }

    private Node insert(int kind, String data) {
        Node node = create(kind, data);
        append(node, current());
        stack.add(node);
        return node;
    }

    private int firstAfterMarker() {
        return list.lastIndexOf(null) + 1;
    }

    private void pushFormatting(Node e) {
        List<Node> same = new ArrayList<>();
        for (Node entry : list.subList(firstAfterMarker(), list.size())) {
            if (entry.kind == e.kind && entry.data.toString().equals(e.data.toString())) {
                same.add(entry);
            }
        }
        if (same.size() >= 3) {
            list.remove(same.get(0));
        }
        list.add(e);
    }

    private boolean markerOrOpen(Node entry) {
        return entry == null || stack.contains(entry);
    }

    private void reconstruct() {
        if (list.isEmpty() || markerOrOpen(list.get(list.size() - 1))) {
            return;
        }
        int i = list.size() - 1;
        while (i > 0 && !markerOrOpen(list.get(i - 1))) {
            i--;
        }
        for (int p = i; p < list.size(); p++) {
            list.set(p, insert(list.get(p).kind, list.get(p).data.toString()));
        }
    }

    private void text(char c) {
        reconstruct();
        List<Node> siblings = current().children;
        Node last = siblings.isEmpty() ? null : siblings.get(siblings.size() - 1);
        if (last != null && last.kind == MarkupTreeBuilder.TEXT) {
            last.data.append(c);
        } else {
            append(create(MarkupTreeBuilder.TEXT, "" + c), current());
        }
    }

    private void comment(String content) {
        append(create(MarkupTreeBuilder.COMMENT, content), current());
    }

    // ---- Start tags ----

    private void startTag(int kind, String attributes) {
        switch (kind) {
            case MarkupTreeBuilder.SPAN:
                reconstruct();
                insert(kind, attributes);
                break;
            case MarkupTreeBuilder.BR:
                reconstruct();
                insert(kind, attributes);
                pop();
                break;
            case MarkupTreeBuilder.OBJECT:
                reconstruct();
                insert(kind, attributes);
                list.add(null);
                break;
            case MarkupTreeBuilder.LI:
                lookForListItem();
                closePAndInsert(kind, attributes);
                break;
            case MarkupTreeBuilder.DIV:
            case MarkupTreeBuilder.P:
            case MarkupTreeBuilder.UL:
                closePAndInsert(kind, attributes);
                break;
            default:
                reconstruct();
                pushFormatting(insert(kind, attributes));
        }
    }

    private void closePAndInsert(int kind, String attributes) {
        if (inScope(MarkupTreeBuilder.P, false)) {
            closeP();
        }
        insert(kind, attributes);
    }

    private void lookForListItem() {
        for (int i = stack.size() - 1; i >= 0; i--) {
            switch (stack.get(i).kind) {
                case MarkupTreeBuilder.LI:
                    impliedEndTags(MarkupTreeBuilder.LI);
                    popUntil(MarkupTreeBuilder.LI);
                    return;
                case MarkupTreeBuilder.ROOT:
                case MarkupTreeBuilder.UL:
                case MarkupTreeBuilder.OBJECT:
                case MarkupTreeBuilder.BR:
                    return;
                default:
            }
        }
    }

    // ---- End tags ----

    private void endTag(int kind) {
        switch (kind) {
            case -1:
                break;
            case MarkupTreeBuilder.DIV:
            case MarkupTreeBuilder.UL:
            case MarkupTreeBuilder.OBJECT:
                if (inScope(kind, false)) {
                    impliedEndTags(-1);
                    popUntil(kind);
                    if (kind == MarkupTreeBuilder.OBJECT) {
                        while (!list.isEmpty() && list.remove(list.size() - 1) != null) {
                            continue;
                        }
                    }
                }
                break;
            case MarkupTreeBuilder.P:
                if (!inScope(kind, false)) {
                    insert(kind, "");
                }
                closeP();
                break;
            case MarkupTreeBuilder.LI:
                if (inScope(kind, true)) {
                    impliedEndTags(kind);
                    popUntil(kind);
                }
                break;
            case MarkupTreeBuilder.BR:
                startTag(kind, "");
                break;
            case MarkupTreeBuilder.SPAN:
                otherEnd(kind);
                break;
            default:
                adoption(kind);
        }
    }

    private static boolean special(Node node) {
        switch (node.kind) {
            case MarkupTreeBuilder.ROOT:
            case MarkupTreeBuilder.DIV:
            case MarkupTreeBuilder.P:
            case MarkupTreeBuilder.UL:
            case MarkupTreeBuilder.LI:
            case MarkupTreeBuilder.OBJECT:
            case MarkupTreeBuilder.BR:
                return true;
            default:
                return false;
        }
    }

    private void otherEnd(int kind) {
        for (int i = stack.size() - 1; ; i--) {
            Node node = stack.get(i);
            if (node.kind == kind) {
                impliedEndTags(kind);
                popUntil(node);
                return;
            }
            if (special(node)) {
                return;
            }
        }
    }

    private void adoption(int kind) {
        if (current().kind == kind && !list.contains(current())) {
            pop();
            return;
        }
        for (int round = 1; round <= 8; round++) {
            Node f = null;
            for (int i = list.size() - 1; i >= firstAfterMarker() && f == null; i--) {
                f = list.get(i).kind == kind ? list.get(i) : null;
            }
            if (f == null) {
                otherEnd(kind);
                return;
            }
            if (!stack.contains(f)) {
                list.remove(f);
                return;
            }
            if (!inScope(f)) {
                return;
            }
            Node fb = null;
            for (int i = stack.indexOf(f) + 1; i < stack.size() && fb == null; i++) {
                fb = special(stack.get(i)) ? stack.get(i) : null;
            }
            if (fb == null) {
                popUntil(f);
                list.remove(f);
                return;
            }
            adopt(f, fb);
        }
    }

    private void adopt(Node f, Node fb) {
        Node ca = stack.get(stack.indexOf(f) - 1);
        int b = list.indexOf(f);
        Node last = fb;
        int j = stack.indexOf(fb);
        int counter = 0;
        while (true) {
            counter = counter + 1;
            j = j - 1;
            Node node = stack.get(j);
            if (node == f) {
                break;
            }
            if (counter > 3 && list.contains(node)) {
                b = list.indexOf(node) < b ? b - 1 : b;
                list.remove(node);
            }
            if (!list.contains(node)) {
                stack.remove(j);
                continue;
            }
            Node c = create(node.kind, node.data.toString());
            list.set(list.indexOf(node), c);
            stack.set(j, c);
            node = c;
            if (last == fb) {
                b = list.indexOf(c) + 1;
            }
            append(last, node);
            last = node;
        }
        append(last, ca);
        Node n = create(f.kind, f.data.toString());
        for (Node child : new ArrayList<>(fb.children)) {
            append(child, n);
        }
        append(n, fb);
        b = list.indexOf(f) < b ? b - 1 : b;
        list.remove(f);
        list.add(b, n);
        stack.remove(f);
        stack.add(stack.indexOf(fb) + 1, n);
    }

    // ---- Serialization ----

    String serialization() {
        StringBuilder out = new StringBuilder();
        for (Node child : nodes.get(0).children) {
            write(child, out);
        }
        return out.toString();
    }

    private static void write(Node node, StringBuilder out) {
        if (node.kind == MarkupTreeBuilder.TEXT) {
            out.append(node.data.toString().replace("&", "&amp;").replace("<", "&lt;"));
        } else if (node.kind == MarkupTreeBuilder.COMMENT) {
            out.append("<!--").append(node.data).append("-->");
        } else {
            out.append('<').append(NAMES[node.kind]).append(node.data).append('>');
            if (node.kind != MarkupTreeBuilder.BR) {
                for (Node child : node.children) {
                    write(child, out);
                }
                out.append("</").append(NAMES[node.kind]).append('>');
            }
        }
    }
}
