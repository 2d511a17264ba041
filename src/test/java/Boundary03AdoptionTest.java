/** 'Terms', 'ADOPTION of kind K': its boundary cases, a sentence of the document at a time. */
public final class Boundary03AdoptionTest {
    private static final String[] FORMATTING = {"b", "i", "u", "em", "s"};

    private static void a1() {
        Check.sentence("A1: if the current node has kind K and is not in the list: pop; done.");
        for (String name : FORMATTING) {
            String tag = "<" + name + ">";
            String end = "</" + name + ">";
            // Four alike: the first is out of the list, so that the fourth end tag finds it by A1.
            String four = tag.repeat(4) + end.repeat(4);
            Check.leaves(tag.repeat(4) + end.repeat(3), four, "0 1", "");
            Check.leaves(four, four, "0", "");
            Check.leaves(tag.repeat(5) + end.repeat(4), tag.repeat(5) + end.repeat(5), "0 1", "");
        }
        // The node is current and not in the list, and others of its kind in the list stay as they are.
        Check.leaves("<b><p><b><b><b></p>", "<b><p><b><b><b></b></b></b></p></b>", "0 1", "3 4 5");
        Check.leaves("<b><p><b><b><b></p></b>", "<b><p><b><b><b></b></b></b></p></b>", "0", "3 4 5");
        // In the list: not A1.
        Check.leaves("<b></b>", "<b></b>", "0", "");
        // Not in the list, but of another kind, or not the current node: not A1.
        Check.leaves("<b><b><b><b></b></b></b></i>", "<b><b><b><b></b></b></b></b>", "0 1", "");
        Check.leaves("<b><b><b><b></b></b></b><p></b>", "<b><b><b><b></b></b></b><p></p></b>", "0 1 5", "");
    }

    private static void a2() {
        Check.sentence("A2: run outer rounds A3..A8, at most 8 of them; after the 8th, done.");
        for (int blocks = 1; blocks <= 12; blocks++) {
            int rounds = Math.min(blocks, 8);
            boolean open = blocks >= 8;
            String inner = "<div>".repeat(blocks - rounds) + "x" + "</div>".repeat(blocks - rounds);
            StringBuilder stack = new StringBuilder("0");
            int kept = blocks + 2 + rounds;
            for (int i = 1; i <= blocks; i++) {
                stack.append(' ').append(i + 1).append(open && i == 8 ? " " + kept : "");
            }
            Check.leaves("<b>" + "<div>".repeat(blocks) + "x</b>",
                "<b></b><div>".repeat(rounds) + "<b>" + inner + "</b>" + "</div>".repeat(rounds), stack.toString(), open ? "" + kept : "");
        }
        // A second end tag begins with round one again.
        Check.leaves("<b>" + "<div>".repeat(10) + "x</b></b>",
            "<b></b><div>".repeat(10) + "<b>x</b>" + "</div>".repeat(10), "0 2 3 4 5 6 7 8 9 10 11", "");
        Check.leaves("<b>" + "<div>".repeat(8) + "x</b></b>y",
            "<b></b><div>".repeat(8) + "<b>x</b>y" + "</div>".repeat(8), "0 2 3 4 5 6 7 8 9", "");
    }

    private static void a3() {
        Check.sentence("A3: F = the last node of kind K among the list entries after the last MARKER (all entries if there is none).");
        Check.leaves("<b><b></b>x", "<b><b></b>x</b>", "0 1", "1");
        Check.leaves("<b><i><b></b>x", "<b><i><b></b>x</i></b>", "0 1 2", "1 2");
        Check.leaves("<b><i></b>x", "<b><i></i></b><i>x</i>", "0 3", "3");
        Check.leaves("<b><object><b></b>x", "<b><object><b></b>x</object></b>", "0 1 2", "1 |");
        Check.sentence("If there is no such node: OTHER END of kind K; done.");
        Check.leaves("</b>", "", "0", "");
        Check.leaves("<i></b>", "<i></i>", "0 1", "1");
        Check.leaves("<b><object></b>x", "<b><object>x</object></b>", "0 1 2", "1 |");
        Check.leaves("<b><object><object></b>x", "<b><object><object>x</object></object></b>", "0 1 2 3", "1 | |");
        Check.leaves("<b><object><i></b>x", "<b><object><i>x</i></object></b>", "0 1 2 3", "1 | 3");
        Check.leaves("<b><b><b><b></b></b></b><span></b>x", "<b><b><b><b></b></b></b><span></span></b>x", "0", "");
        Check.leaves("<b><b><b><b></b></b></b><span><p></b>x", "<b><b><b><b></b></b></b><span><p>x</p></span></b>", "0 1 5 6", "");
    }

    private static void a4() {
        Check.sentence("A4: if F is not on the stack: remove F's entry; done.");
        Check.leaves("<p><b></p></b>x", "<p><b></b></p>x", "0", "");
        Check.leaves("<p><b><i></p></b>x", "<p><b><i></i></b></p><i>x</i>", "0 4", "4");
        Check.leaves("<p><i><b></p></b>x", "<p><i><b></b></i></p><i>x</i>", "0 4", "4");
        // One entry for each end tag.
        Check.leaves("<p><b><b></p></b>", "<p><b><b></b></b></p>", "0", "2");
        Check.leaves("<p><b><b></p></b></b>", "<p><b><b></b></b></p>", "0", "");
        Check.leaves("<p><b><b></p></b></b></b>x", "<p><b><b></b></b></p>x", "0", "");
        // The one that is open stays so.
        Check.leaves("<b><p><b></p></b>x", "<b><p><b></b></p>x</b>", "0 1", "1");
    }

    private static void a5() {
        Check.sentence("A5: FB = the SPECIAL stack entry with the least position above F's.");
        String[] special = {"div", "p", "ul", "li"};
        for (String name : special) {
            String block = "<" + name + ">";
            String end = "</" + name + ">";
            Check.leaves("<b>" + block + "x</b>y", "<b></b>" + block + "<b>x</b>y" + end, "0 2", "");
        }
        Check.leaves("<b><div><ul><li>x</b>y",
            "<b></b><div><b></b><ul><b></b><li><b>x</b>y</li></ul></div>", "0 2 3 4", "");
        // A block below F is none, nor is an element that is not SPECIAL.
        Check.leaves("<div><b>x</b>y", "<div><b>x</b>y</div>", "0 1", "");
        Check.leaves("<p><b><span><i>x</b>y", "<p><b><span><i>x</i></span></b><i>y</i></p>", "0 1 6", "6");
        Check.sentence("If there is none: pop until F itself has been popped; remove F's entry; done.");
        Check.leaves("<b></b>x", "<b></b>x", "0", "");
        Check.leaves("<b><i><u></b>x", "<b><i><u></u></i></b><i><u>x</u></i>", "0 4 5", "4 5");
        Check.leaves("<b><span><span></b>x", "<b><span><span></span></span></b>x", "0", "");
        Check.leaves("<b><br></b>x", "<b><br></b>x", "0", "");
        Check.leaves("<b><p></p></b>x", "<b><p></p></b>x", "0", "");
        Check.leaves("<i><b><u></b>", "<i><b><u></u></b></i>", "0 1", "1 3");
    }

    private static void a7Counter() {
        Check.sentence("If counter > 3 and NODE is in the list: remove its entry.");
        Check.leaves("<b><p>x</b>y", "<b></b><p><b>x</b>y</p>", "0 2", "");
        Check.leaves("<b><i><p>x</b>y", "<b><i></i></b><i><p><b>x</b>y</p></i>", "0 5 3", "5");
        Check.leaves("<b><i><u><p>x</b>y", "<b><i><u></u></i></b><i><u><p><b>x</b>y</p></u></i>", "0 7 6 4", "7 6");
        Check.leaves("<b><i><u><em><p>x</b>y",
            "<b><i><u><em></em></u></i></b><i><u><em><p><b>x</b>y</p></em></u></i>", "0 9 8 7 5", "9 8 7");
        Check.leaves("<b><i><u><em><s><p>x</b>y",
            "<b><i><u><em><s></s></em></u></i></b><u><em><s><p><b>x</b>y</p></s></em></u>", "0 10 9 8 6", "10 9 8");
        Check.leaves("<b><i><i><u><em><s><p>x</b>y",
            "<b><i><i><u><em><s></s></em></u></i></i></b><u><em><s><p><b>x</b>y</p></s></em></u>", "0 11 10 9 7", "11 10 9");
        // What is not in the list counts as well.
        Check.leaves("<b><i><span><span><p>x</b>y",
            "<b><i><span><span></span></span></i></b><i><p><b>x</b>y</p></i>", "0 7 5", "7");
        Check.leaves("<b><i><span><span><span><p>x</b>y",
            "<b><i><span><span><span></span></span></span></i></b><p><b>x</b>y</p>", "0 6", "");
        Check.leaves("<b><i><span><u><em><p>x</b>y",
            "<b><i><span><u><em></em></u></span></i></b><u><em><p><b>x</b>y</p></em></u>", "0 9 8 6", "9 8");
        // Each round counts from zero.
        Check.leaves("<b><i><u><em><div><s><i><u><p>x</b>y", "<b><i><u><em></em></u></i></b><i><u><em><div><b><s><i><u></u></i></s></b>"
            + "<s><i><u><p><b>x</b>y</p></u></i></s></div></em></u></i>", "0 13 12 11 5 17 16 15 9", "13 12 11 17 16 15");
    }

    private static void a7NotInTheList() {
        Check.sentence("If NODE is not in the list: remove it from the stack (the entries above move down by one) and repeat A7.");
        Check.leaves("<b><span><p>x</b>y", "<b><span></span></b><p><b>x</b>y</p>", "0 3", "");
        Check.leaves("<b><span><i><p>x</b>y", "<b><span><i></i></span></b><i><p><b>x</b>y</p></i>", "0 6 4", "6");
        Check.leaves("<b><i><span><p>x</b>y", "<b><i><span></span></i></b><i><p><b>x</b>y</p></i>", "0 6 4", "6");
        Check.leaves("<b><span><p><span>x</b>y", "<b><span></span></b><p><b><span>x</span></b>y</p>", "0 3", "");
        // A formatting node that three later ones took out of the list.
        Check.leaves("<u><b><b><b><b><p>x</u>y",
            "<u><b><b><b><b></b></b></b></b></u><b><b><b><p><u>x</u>y</p></b></b></b>", "0 10 9 8 6", "10 9 8");
    }

    private static String numbers(int first, int last) {
        StringBuilder out = new StringBuilder();
        for (int n = first; n <= last; n++) {
            out.append(n == first ? "" : " ").append(n);
        }
        return out.toString();
    }

    private static void entriesMoveDown() {
        Check.sentence("remove it from the stack (the entries above move down by one)");
        // Every node there can be is on the stack, and there is no room for a clone after the removal.
        String markup = "<i>" + "<b>".repeat(60) + "<span><p></i>";
        MarkupTreeBuilder x = Check.full(markup, 64, 256);
        Check.due("stack after one of 64 entries left", Check.stack(x), numbers(0, 61) + " 63");
        Check.due("list then", Check.list(x), "1 59 60 61");
        // Where the entries were before they moved down, nothing is found any more.
        markup = "<b>" + "<div>".repeat(7) + "<span><div><i></b>";
        x = Check.parsed(markup);
        Check.due("stack after eight rounds", Check.stack(x), "0 2 3 4 5 6 7 8 10 19 11");
        Check.due("list then", Check.list(x), "19 11");
        x = Check.parsed(markup + "</i>");
        Check.due("stack after the end of the last one", Check.stack(x), "0 2 3 4 5 6 7 8 10 19");
        Check.due("list then", Check.list(x), "19");
    }

    private static void bookmark() {
        Check.sentence("Bookmark b = F's list position.");
        // In the eighth round N stays in the list, at the bookmark: blocks without anything between them.
        String divs = "<div>".repeat(8);
        MarkupTreeBuilder x = Check.parsed("<b>" + divs + "</b>");
        Check.due("list of N alone", Check.list(x), "17");
        x = Check.parsed("<i><b>" + divs + "<u></b>");
        Check.due("list with one before and one after", Check.list(x), "1 19 11");
        Check.due("stack with it", Check.stack(x), "0 1 3 4 5 6 7 8 9 10 19 11");
        x = Check.parsed("<object><b>" + divs + "<u></b>");
        Check.due("list with a MARKER before", Check.list(x), "| 19 11");
        Check.sentence("If LAST is FB: b = C's list position + 1.");
        divs = "<div>".repeat(7);
        x = Check.parsed("<b>" + divs + "<i><u><div><em></b>");
        Check.due("list with two clones", Check.list(x), "21 20 22 12");
        Check.due("stack with them", Check.stack(x), "0 2 3 4 5 6 7 8 21 20 11 22 12");
        Check.sentence("Whenever an entry at a position less than b is removed from the list, b decreases by 1.");
        x = Check.parsed("<b>" + divs + "<i><u><em><s><div></b>");
        Check.due("list with one removed below the bookmark", Check.list(x), "23 22 21 24");
        Check.due("stack with it", Check.stack(x), "0 2 3 4 5 6 7 8 23 22 21 13 24");
        x = Check.parsed("<b>" + divs + "<i><i><u><em><s><div><u a></b>");
        Check.due("list with two removed below it and one after", Check.list(x), "25 24 23 26 15");
        x = Check.parsed("<b>" + divs + "<i><span><span><span><div><u></b>");
        Check.due("list with one removed above the bookmark", Check.list(x), "22 14");
        Check.due("stack with it", Check.stack(x), "0 2 3 4 5 6 7 8 13 22 14");
    }

    private static void a8() {
        Check.sentence("A8: append LAST to CA.");
        Check.leaves("<span><b><p>x</b>", "<span><b></b><p><b>x</b></p></span>", "0 1 3", "");
        Check.leaves("<u><b><p>x</b>", "<u><b></b><p><b>x</b></p></u>", "0 1 3", "1");
        Check.leaves("<object><b><p>x</b>", "<object><b></b><p><b>x</b></p></object>", "0 1 3", "|");
        Check.sentence("Append each child of FB, first to last, to N. Append N to FB.");
        Check.leaves("<b><p></b>", "<b></b><p><b></b></p>", "0 2", "");
        Check.leaves("<b><p>1<br>2<!--3--><span>4</span>5</b>6",
            "<b></b><p><b>1<br>2<!--3--><span>4</span>5</b>6</p>", "0 2", "");
        MarkupTreeBuilder x = Check.parsed("<b><p>" + "<br>".repeat(50) + "</b>");
        Check.due("first of fifty children", x.nodeChild(53, 0), 3);
        Check.due("last of fifty children", x.nodeChild(53, 49), 52);
        Check.due("children of the block", Check.children(x, 2), "53");
        Check.sentence("Remove F from the stack, then insert N into the stack just above FB.");
        Check.leaves("<b><p><i><u>x</b>y", "<b></b><p><b><i><u>x</u></i></b><i><u>y</u></i></p>", "0 2 7 8", "7 8");
    }

    public static void main(String[] args) {
        a1();
        a2();
        a3();
        a4();
        a5();
        a7Counter();
        a7NotInTheList();
        entriesMoveDown();
        bookmark();
        a8();
        Check.end();
    }
}
