/** Promise 3 itself and its boundary cases, a sentence of the document at a time. */
public final class Boundary03ParseTest {
    private static void again(String told, MarkupTreeBuilder x, int status) {
        String before = Check.everything(x);
        for (int i = 0; i < 3; i++) {
            Check.due("parse() again after " + told, x.parse(), status);
            Check.due("the object then", Check.everything(x), before);
            Check.due("feed after " + told, x.feed('x'), false);
        }
        Check.due("parse() after refused characters", x.parse(), status);
        Check.due("the object then", Check.everything(x), before);
    }

    private static void notTwice() {
        Check.sentence("If status is not NOT_PARSED, parse() answers the status and changes nothing.");
        MarkupTreeBuilder empty = Check.large();
        empty.parse();
        again("DONE of an empty input", empty, MarkupTreeBuilder.DONE);
        again("DONE", Check.parsed("<p><b>1</p>2<object><i></b>3<!--4"), MarkupTreeBuilder.DONE);
        again("DONE of a dropped tag", Check.parsed("x<b a=\"1"), MarkupTreeBuilder.DONE);
        again("FULL for nodes", Check.full("<br>".repeat(7) + "x<b>", 8, 16), MarkupTreeBuilder.FULL);
        again("FULL for attribute text", Check.full("<b a c d e>x", 8, 16), MarkupTreeBuilder.FULL);
        again("FULL in an adoption", Check.full("<b><i><u><div>x<br></b>y", 8, 16), MarkupTreeBuilder.FULL);
        again("FULL in a reconstruction", Check.full("<p><b><i><u><s></p>x", 8, 16), MarkupTreeBuilder.FULL);
    }

    private static void emptyInput() {
        Check.sentence("an empty input is fine");
        String due = "status 1 nodes 1\n 0 kind 0 parent -1 children [] data 0 []\n stack 0\n list \n serialization ";
        MarkupTreeBuilder x = new MarkupTreeBuilder(16, 8, 16);
        Check.due("parse() of nothing", x.parse(), MarkupTreeBuilder.DONE);
        Check.due("the object then", Check.everything(x), due);
        x.reset();
        Check.due("parse() of nothing after reset()", x.parse(), MarkupTreeBuilder.DONE);
        Check.due("the object then", Check.everything(x), due);
        x.reset();
        x.feed(0);
        x.feed(127);
        Check.due("parse() after refused characters alone", x.parse(), MarkupTreeBuilder.DONE);
        Check.due("the object then", Check.everything(x), due);
    }

    private static void wholeInput() {
        Check.sentence("it tokenizes and handles the whole input");
        int[] caps = {16, 17, 255, 256};
        for (int cap : caps) {
            MarkupTreeBuilder x = Check.feed(new MarkupTreeBuilder(cap, 64, 256), "x".repeat(cap - 4) + "<br>");
            Check.due("parse() of " + cap, x.parse(), MarkupTreeBuilder.DONE);
            Check.due("serialization of " + cap, Check.serial(x), "x".repeat(cap - 4) + "<br>");
        }
        Check.due("text of one character", Check.data(Check.parsed("x"), 1), "x");
        Check.due("tokens of one character each", Check.data(Check.parsed("<".repeat(256)), 1), "<".repeat(256));
    }

    private static void statusByCapacity() {
        Check.sentence("It then sets the status to DONE, or to FULL if the capacity stopped it, and answers the status.");
        String six = "<br>".repeat(6);
        Check.ends(six + "<br>", 8, 16, MarkupTreeBuilder.DONE, six + "<br>", "0", "");
        Check.ends(six + "<br>x", 8, 16, MarkupTreeBuilder.FULL, six + "<br>", "0", "");
        Check.ends(six + "x", 8, 16, MarkupTreeBuilder.DONE, six + "x", "0", "");
        Check.ends(six + "xy</b></div><unknown></", 8, 16, MarkupTreeBuilder.DONE, six + "xy&lt;/", "0", "");
        Check.ends(six + "xy</b></div><unknown></i", 8, 16, MarkupTreeBuilder.DONE, six + "xy", "0", "");
    }

    private static void leftAsTheyAre() {
        Check.sentence("The stack and list are left as they are at the end.");
        Check.leaves("<div><b><object><i>", "<div><b><object><i></i></object></b></div>", "0 1 2 3 4", "2 | 4");
        Check.leaves("<p><b></p>", "<p><b></b></p>", "0", "2");
        Check.ends("<div><b><object><i><u><em><s>x", 8, 16, MarkupTreeBuilder.FULL,
            "<div><b><object><i><u><em><s></s></em></u></i></object></b></div>", "0 1 2 3 4 5 6 7", "2 | 4 5 6 7");
    }

    public static void main(String[] args) {
        notTwice();
        emptyInput();
        wholeInput();
        statusByCapacity();
        leftAsTheyAre();
        Check.end();
    }
}
