/** Promises 45 and 46: mark and count. */
public final class MarksTest {
    private static final Due DUE = new Due("MarksTest");
    private static final String NET = "knot a plain holds 5; knot b plain holds 9; knot c slip holds 1; string a b;"
            + "string b a; string b c; against a b; person p will 20 at a; person q will 0 at b; person r will 7 at c;";

    private MarksTest() {
    }

    public static void main(String[] args) {
        laidAndGoneBackTo();
        fourOfThem();
        seenByMarks();
        wrongMarks();
        counts();
        countsOfOthers();
        DUE.end();
    }

    private static void laidAndGoneBackTo() {
        HammockNet x = Due.net(NET);
        x.hour();
        DUE.is("lay", x.mark(0, false), true);
        DUE.is("laying undoes nothing", x.count(9), 1);
        x.shift(0, 2);
        x.rouse(1);
        x.tie(0, 2);
        x.hour();
        Due.readRest(x, "hour ; hour ;");
        DUE.is("back", x.mark(0, true), true);
        DUE.is("hour", x.count(3), 1);
        DUE.is("p at b", x.person(0, 1), 1);
        DUE.is("will", x.person(0, 0), 19);
        DUE.is("shifts", x.person(0, 2), 1);
        DUE.is("q lies", x.person(1, 3), 1);
        DUE.is("strings", x.knot(0, 2), 2);
        DUE.is("nothing can be undone", x.undo(), false);
        DUE.is("none can be", x.count(9), 0);
        DUE.is("the rest stays", x.count(7), 2);
        x.hour();
        DUE.is("one can be", x.count(9), 1);
        DUE.is("back again", x.mark(0, true), true);
        DUE.is("hour again", x.count(3), 1);
        x.hour();
        x.hour();
        DUE.is("laid anew", x.mark(0, false), true);
        x.hour();
        x.mark(0, true);
        DUE.is("hour of the new one", x.count(3), 3);
    }

    private static void fourOfThem() {
        HammockNet x = new HammockNet();
        for (int i = 0; i < 4; i++) {
            DUE.is("nothing on " + i, x.mark(i, true), false);
            x.hour();
            DUE.is("lay " + i, x.mark(i, false), true);
        }
        for (int i = 3; i >= 0; i--) {
            DUE.is("back to " + i, x.mark(i, true), true);
            DUE.is("hour of " + i, x.count(3), i + 1);
        }
        DUE.is("back to 2, a later one", x.mark(2, true), true);
        DUE.is("hour of 2", x.count(3), 3);
    }

    private static void seenByMarks() {
        HammockNet x = Due.net(NET);
        x.see(0, 1, 1, true);
        x.see(0, 1, 3, false);
        x.see(0, 0, 2, true);
        x.mark(1, false);
        int many = x.wills(0);
        DUE.is("2 alone", many, 1);
        x.see(1, 0, 0, false);
        x.see(1, 2, 2, true);
        x.see(1, 2, 5, false);
        DUE.is("anew", x.count(8), 3);
        DUE.is("back", x.mark(1, true), true);
        DUE.is("three are seen", x.count(8), 3);
        DUE.is("as they were", x.wills(0), many);
        DUE.is("that of 2", x.wills(1), 2);
        DUE.is("one more from a", x.see(0, 1, 1, true), true);
        DUE.is("four are seen", x.count(8), 4);
        x.mark(1, true);
        DUE.is("three in the mark still", x.count(8), 3);
        x = Due.net(NET);
        x.mark(3, false);
        x.see(0, 1, 1, true);
        x.mark(3, true);
        DUE.is("nothing was seen", x.count(8), 0);
    }

    private static void wrongMarks() {
        HammockNet x = Due.net(NET);
        for (int mark : new int[] {-1, 4, Integer.MAX_VALUE, Integer.MIN_VALUE}) {
            DUE.is("lay " + mark, x.mark(mark, false), false);
            DUE.is("back to " + mark, x.mark(mark, true), false);
        }
        x.hour();
        DUE.is("nothing on it", x.mark(2, true), false);
        DUE.is("undo stays", x.count(9), 1);
        DUE.is("the hour stays", x.count(3), 1);
    }

    private static void counts() {
        HammockNet x = Due.net(NET);
        int[] due = {3, 3, 3, 0, 7, 5, 27, 0, 0, 0, 0};
        for (int what = 0; what < due.length; what++) {
            DUE.is("count(" + what + ")", x.count(what), due[what]);
        }
        x.rouse(0);
        x.tie(1, 0);
        x.hour();
        x.see(0, 1, 1, true);
        x.see(0, 1, 1, true);
        Due.readRest(x, "hour ; rouse p ; hour ;");
        Due.feed(x, "knot");
        int[] then = {3, 2, 3, 1, 6, 4, 27, 3, 2, 3, 4};
        for (int what = 0; what < then.length; what++) {
            DUE.is("count(" + what + ") then", x.count(what), then[what]);
        }
    }

    private static void countsOfOthers() {
        HammockNet x = Due.net(NET);
        for (int what : new int[] {-1, 11, Integer.MAX_VALUE, Integer.MIN_VALUE}) {
            DUE.is("count(" + what + ")", x.count(what), -1);
        }
    }
}
