/** Promise 3, the adoption A1 to A8. */
public final class Promise03AdoptionTest {
    private static void a1CurrentNodeThatIsNotInTheList() {
        Check.leaves("<b><b><b><b>a</b></b></b></b>x", "<b><b><b><b>a</b></b></b></b>x", "0", "");
        Check.leaves("<b><p><b><b><b></p></b>", "<b><p><b><b><b></b></b></b></p></b>", "0", "3 4 5");
        Check.prints("<b><p><b><b><b></p></b>x",
            "<b><p><b><b><b></b></b></b></p></b><b><b><b>x</b></b></b>");
    }

    private static void a3NoFormattingNode() {
        Check.leaves("</b>x", "x", "0", "");
        Check.leaves("<span></b>x", "<span>x</span>", "0 1", "");
        Check.leaves("<i></b>x", "<i>x</i>", "0 1", "1");
        Check.leaves("<b><object></b>x", "<b><object>x</object></b>", "0 1 2", "1 |");
        Check.leaves("<b><b><b><b></b></b></b><span>x</b>y",
            "<b><b><b><b></b></b></b><span>x</span></b>y", "0", "");
        Check.leaves("<b><b><b><b></b></b></b><p>x</b>y",
            "<b><b><b><b></b></b></b><p>xy</p></b>", "0 1 5", "");
    }

    private static void a4NodeThatIsNotOnTheStack() {
        Check.leaves("<p><b>x</p></b>y", "<p><b>x</b></p>y", "0", "");
        Check.leaves("<p><b><i>x</p></b>y", "<p><b><i>x</i></b></p><i>y</i>", "0 5", "5");
    }

    private static void a5NoBlock() {
        Check.leaves("<b>x</b>y", "<b>x</b>y", "0", "");
        Check.leaves("<b><i>x</b>y", "<b><i>x</i></b><i>y</i>", "0 4", "4");
        Check.leaves("<b><span>x</b>y", "<b><span>x</span></b>y", "0", "");
        Check.leaves("<b><b>x</b>y", "<b><b>x</b>y</b>", "0 1", "1");
        Check.leaves("<div><em>x</EM>y", "<div><em>x</em>y</div>", "0 1", "");
        String[] names = {"b", "i", "u", "em", "s"};
        for (String name : names) {
            Check.leaves("<" + name + "><p>x</" + name + ">y",
                "<" + name + "></" + name + "><p><" + name + ">x</" + name + ">y</p>", "0 2", "");
        }
    }

    private static void a5LeastBlockFirst() {
        Check.leaves("<b><div><p>x</b>y", "<b></b><div><b></b><p><b>x</b>y</p></div>", "0 2 3", "");
        Check.leaves("<b><p>x<span>y</b>z", "<b></b><p><b>x<span>y</span></b>z</p>", "0 2", "");
        Check.leaves("<b><ul><li>x</b>y", "<b></b><ul><b></b><li><b>x</b>y</li></ul>", "0 2 3", "");
    }

    private static void a7Clones() {
        Check.leaves("<b>1<i>2<p>3</b>4", "<b>1<i>2</i></b><i><p><b>3</b>4</p></i>", "0 7 5", "7");
        Check.leaves("<b>1<span>2<p>3</b>4", "<b>1<span>2</span></b><p><b>3</b>4</p>", "0 5", "");
        Check.leaves("<b><i><span><u><p>x</b>y",
            "<b><i><span><u></u></span></i></b><i><u><p><b>x</b>y</p></u></i>", "0 8 7 5", "8 7");
        Check.leaves("<b><i><u><em><p>x</b>",
            "<b><i><u><em></em></u></i></b><i><u><em><p><b>x</b></p></em></u></i>", "0 9 8 7 5", "9 8 7");
    }

    private static void a7FourthAndFurtherAreLeftOut() {
        Check.leaves("<b><i><u><em><s><p>x</b>y",
            "<b><i><u><em><s></s></em></u></i></b><u><em><s><p><b>x</b>y</p></s></em></u>", "0 10 9 8 6", "10 9 8");
        Check.leaves("<b><i><span><span><span><p>x</b>y",
            "<b><i><span><span><span></span></span></span></i></b><p><b>x</b>y</p>", "0 6", "");
    }

    private static void attributesAreCloned() {
        Check.prints("<b a=\"1\"><i c><p>x</b>y",
            "<b a=\"1\"><i c=\"\"></i></b><i c=\"\"><p><b a=\"1\">x</b>y</p></i>");
    }

    private static void a8ChildrenKeepTheirOrder() {
        Check.leaves("<b>0<p>1<br>2<!--3--><i>4</i></b>5",
            "<b>0</b><p><b>1<br>2<!--3--><i>4</i></b>5</p>", "0 3", "");
        Check.leaves("<b><p><i>x</b>y", "<b></b><p><b><i>x</i></b><i>y</i></p>", "0 2 6", "6");
    }

    private static void a2AtMostEightRounds() {
        String divs = "<div>".repeat(10);
        String moved = "<b></b><div>".repeat(8) + "<b><div><div>xy</div></div></b>" + "</div>".repeat(8);
        Check.leaves("<b>" + divs + "x</b>y", moved, "0 2 3 4 5 6 7 8 9 20 10 11", "20");
        // Eight blocks take all the rounds: the node of the last one stays open.
        divs = "<div>".repeat(8);
        moved = "<b></b><div>".repeat(8) + "<b>xy</b>" + "</div>".repeat(8);
        Check.leaves("<b>" + divs + "x</b>y", moved, "0 2 3 4 5 6 7 8 9 18", "18");
        divs = "<div>".repeat(7);
        moved = "<b></b><div>".repeat(7) + "<b>x</b>y" + "</div>".repeat(7);
        Check.leaves("<b>" + divs + "x</b>y", moved, "0 2 3 4 5 6 7 8", "");
    }

    private static void a8PlaceInTheList() {
        // The eighth round leaves its node in the list, at the bookmark.
        MarkupTreeBuilder x = Check.parsed("<b><i>" + "<div>".repeat(9) + "<u>x</b>");
        Check.due("list with the bookmark behind the clone", Check.list(x), "14 22 12");
        Check.due("stack with it", Check.stack(x), "0 14 3 4 5 6 7 8 9 10 22 11 12");
        x = Check.parsed("<b><i>" + "<div>".repeat(9) + "<u><em>x</b>");
        Check.due("list with more behind the bookmark", Check.list(x), "15 23 12 13");
        Check.due("stack with them", Check.stack(x), "0 15 3 4 5 6 7 8 9 10 23 11 12 13");
        x = Check.parsed("<i><b>" + "<div>".repeat(9) + "x</b>");
        Check.due("list with the bookmark where the node was", Check.list(x), "1 20");
    }

    public static void main(String[] args) {
        a1CurrentNodeThatIsNotInTheList();
        a3NoFormattingNode();
        a4NodeThatIsNotOnTheStack();
        a5NoBlock();
        a5LeastBlockFirst();
        a7Clones();
        a7FourthAndFurtherAreLeftOut();
        attributesAreCloned();
        a8ChildrenKeepTheirOrder();
        a2AtMostEightRounds();
        a8PlaceInTheList();
        Check.end();
    }
}
