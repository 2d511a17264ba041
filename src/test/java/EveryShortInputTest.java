/**
 * Every input of up to a few pieces, held against the reference: made-up inputs may miss a case,
 * these miss none of their length.
 */
public final class EveryShortInputTest {
    private static final String[] TAGS = {
        "x", "<b>", "</b>", "<b a>", "<i>", "</i>", "<p>", "</p>", "<div>", "</div>", "<ul>", "</ul>", "<li>", "</li>",
        "<object>", "</object>", "<span>", "</span>", "<br>", "<!--c-->"};
    private static final String[] CHARACTERS = {"<", ">", "/", "!", "-", "=", "\"", "&", ";", "b", "B", "l", "t", " "};
    private static final String[] ENTITY_PIECES = {"&", "a", "m", "p", ";", "l", "t", "<"};
    private static final String[] ATTRIBUTE_PIECES = {"a", "A", "=", "\"", " ", "<", "/", ">"};

    private final int nodeCap;
    private final MarkupTreeBuilder x;

    private EveryShortInputTest(int nodeCap) {
        this.nodeCap = nodeCap;
        x = new MarkupTreeBuilder(256, nodeCap, 16);
    }

    private void run(String input) {
        x.reset();
        for (int i = 0; i < input.length(); i++) {
            x.feed(input.charAt(i));
        }
        x.parse();
        ReferenceTree reference = new ReferenceTree(input, nodeCap, 16);
        Check.due(nodeCap + " nodes, " + input, Check.everything(x), Check.everything(reference));
    }

    /** Between before and after stands every row of up to so many pieces. */
    private void everyRow(String before, String[] pieces, int most, String after) {
        int[] row = new int[most];
        for (int length = 0; length <= most; length = next(row, length, pieces.length)) {
            StringBuilder input = new StringBuilder(before);
            for (int i = 0; i < length; i++) {
                input.append(pieces[row[i]]);
            }
            run(input.append(after).toString());
        }
    }

    /** Counts the row up as a number; when all its places are used up, it begins again one longer. */
    private static int next(int[] row, int length, int pieces) {
        for (int i = 0; i < length; i++) {
            row[i]++;
            if (row[i] < pieces) {
                return length;
            }
            row[i] = 0;
        }
        return length + 1;
    }

    public static void main(String[] args) {
        EveryShortInputTest large = new EveryShortInputTest(64);
        large.everyRow("", TAGS, 4, "");
        large.everyRow("<b><i><p>", TAGS, 3, "y");
        large.everyRow("<b><div><i><ul><li>", TAGS, 3, "y");
        large.everyRow("<", CHARACTERS, 4, "");
        large.everyRow("<!--", CHARACTERS, 3, "->x-->y");
        large.everyRow("</", CHARACTERS, 3, "b>x");
        large.everyRow("&", ENTITY_PIECES, 5, "");
        large.everyRow("<b ", ATTRIBUTE_PIECES, 5, ">x");
        // With the fewest nodes, so that the parse stops at each step that makes one.
        EveryShortInputTest small = new EveryShortInputTest(8);
        small.everyRow("<b><i><p>", TAGS, 3, "y</i></b>");
        small.everyRow("<u><b><i><span><em><div>", TAGS, 2, "</b></u>y");
        Check.end();
    }
}
