/** Promises 3 and 6 to 13 on many made-up inputs: every answer is the one of the reference. */
public final class AgainstReferenceTest {
    private static final int RUNS = 60000;
    private static final String[] NAMES = {
        "b", "i", "u", "em", "s", "span", "div", "p", "ul", "li", "object", "br"};
    /** The tags that the adoption works on, the most telling first. */
    private static final String[] MISNESTERS = {"b", "i", "p", "b", "u", "div", "em", "span"};
    private static final String[] ATTRIBUTES = {
        "", "", "", "", " a", " a=\"x\"", " A=\"x\"", " a=\"y\"", " a=\"y\" b", " a=x", " a b a=\"z\"", "/",
        " c=\"1<>&lt;\"", " class=\"some long value\"", " a= \"q\""};
    private static final String[] SCRAPS = {
        "x", "y ", "&lt;", "&amp;", "&", "&l", "<", "</", "</ ", "<!", "<!-", "<!-->", "-->", "<!--c-->",
        "<!----->", ">", "\"", "=", "<x>", "</x>", "<bb>", "<divdivdivdiv>", "\t", "\n", "<b a=\"", "<p", "</i"};
    private static final String SMALL_ALPHABET = "<<<>>>//bipul  =\"!--&lt;amp;Bx";

    private long seed = 20261115;

    /** Every run of the test makes the same inputs. */
    private int next(int bound) {
        seed = seed * 6364136223846793005L + 1442695040888963407L;
        return (int) ((seed >>> 33) % bound);
    }

    private String name(int liking) {
        String name = liking == 0 ? NAMES[next(NAMES.length)] : MISNESTERS[next(4 + liking * 2)];
        return next(20) == 0 ? name.toUpperCase(java.util.Locale.ROOT) : name;
    }

    private String piece(int liking, int scraps) {
        int choice = next(100);
        if (choice < scraps) {
            return SCRAPS[next(SCRAPS.length)];
        }
        if (choice < 20) {
            return "t";
        }
        if (choice < 62) {
            String attributes = next(3) == 0 ? ATTRIBUTES[next(ATTRIBUTES.length)] : "";
            return "<" + name(next(4) == 0 ? 0 : liking) + attributes + ">";
        }
        return "</" + name(next(4) == 0 ? 0 : liking) + ">";
    }

    private String tags(int length) {
        StringBuilder out = new StringBuilder();
        int liking = next(3);
        int scraps = next(3) * 6;
        while (out.length() < length) {
            out.append(piece(liking, scraps));
        }
        return out.substring(0, length);
    }

    private String noise(int length) {
        StringBuilder out = new StringBuilder();
        while (out.length() < length) {
            out.append(SMALL_ALPHABET.charAt(next(SMALL_ALPHABET.length())));
        }
        return out.toString();
    }

    private void run(MarkupTreeBuilder x, int nodeCap, int attrCap) {
        int length = 1 + next(256);
        String input = next(6) == 0 ? noise(length) : tags(length);
        x.reset();
        for (int i = 0; i < input.length(); i++) {
            x.feed(input.charAt(i));
        }
        int answer = x.parse();
        ReferenceTree reference = new ReferenceTree(input, nodeCap, attrCap);
        String told = nodeCap + " nodes, " + attrCap + " attribute text, " + input;
        Check.due("parse() of " + told, answer, reference.status);
        Check.due(told, Check.everything(x), Check.everything(reference));
    }

    public static void main(String[] args) {
        AgainstReferenceTest test = new AgainstReferenceTest();
        int runs = args.length > 0 ? Integer.parseInt(args[0]) : RUNS;
        for (int i = 0; i < runs / 100; i++) {
            int nodeCap = test.next(2) == 0 ? 64 : 8 + test.next(57);
            int attrCap = test.next(2) == 0 ? 256 : 16 + test.next(100);
            MarkupTreeBuilder x = new MarkupTreeBuilder(256, nodeCap, attrCap);
            for (int j = 0; j < 100; j++) {
                test.run(x, nodeCap, attrCap);
            }
        }
        Check.end();
    }
}
