/** The edges of promises 45 and 46, and of how long an object is used. */
public final class MarksEdgesTest {
    private static final Due DUE = new Due("MarksEdgesTest");
    private static final String NET = "knot a plain holds 5; knot b slip holds 9; knot c firm holds 0; string a b; string b a;"
            + "against a b; person p will 40 at a; person q will 0 at b; person r will 3 at b; person s will 1 at c; lulls 1;";

    private MarksEdgesTest() {
    }

    public static void main(String[] args) {
        fourMarks();
        noneSuch();
        nothingOnIt();
        whatTheyHold();
        seenToo();
        whatTheyDoNotHold();
        nothingUndone();
        laidAnew();
        layingChangesNothing();
        lastingMarks();
        countOthers();
        countOfNothing();
        countFull();
        countEach();
        fiveHundredAndTwelve();
        DUE.end();
    }

    private static void fourMarks() {
        DUE.about("MARKS 0 to 3");
        HammockNet x = Due.net(NET);
        for (int mark = 0; mark < 4; mark++) {
            DUE.is("lay " + mark, x.mark(mark, false), true);
            x.hour();
        }
        for (int mark : new int[] {2, 0, 3, 1, 3, 0}) {
            DUE.is("back to " + mark, x.mark(mark, true), true);
            DUE.is("the hour of " + mark, x.count(3), mark);
        }
    }

    private static void noneSuch() {
        DUE.about("mark(int mark, boolean back): .. false: none such");
        HammockNet x = Due.net(NET);
        for (int mark = 0; mark < 4; mark++) {
            x.mark(mark, false);
        }
        x.hour();
        String before = Due.stateOf(x);
        for (int mark : new int[] {-1, -2, 4, 5, 31, 32, Integer.MAX_VALUE, Integer.MIN_VALUE}) {
            DUE.is("lay " + mark, x.mark(mark, false), false);
            DUE.is("back to " + mark, x.mark(mark, true), false);
        }
        DUE.stays("no marks", x, before);
    }

    private static void nothingOnIt() {
        DUE.about("false: none such, nothing is on it (back)");
        HammockNet x = Due.net(NET);
        x.mark(1, false);
        x.hour();
        String before = Due.stateOf(x);
        for (int mark : new int[] {0, 2, 3}) {
            DUE.is("back to " + mark, x.mark(mark, true), false);
        }
        DUE.stays("empty marks", x, before);
        DUE.is("back to 1", x.mark(1, true), true);
        DUE.is("at first none is laid", new HammockNet().mark(0, true), false);
        DUE.is("but one can be", new HammockNet().mark(0, false), true);
    }

    private static void whatTheyHold() {
        DUE.about("MARKS .. hold all that UNDO brings back");
        HammockNet x = Due.net(NET);
        x.hour();
        x.rouse(2);
        x.tie(0, 2);
        x.mark(0, false);
        int[] before = {x.count(1), x.count(3), x.count(4), x.count(5), x.count(6), x.person(0, 0), x.person(0, 2), x.knot(0, 2)};
        x.hour();
        x.lie(2, 0);
        x.rouse(0);
        x.rouse(3);
        x.tie(0, 1);
        x.tie(0, 2);
        DUE.is("back", x.mark(0, true), true);
        int[] then = {x.count(1), x.count(3), x.count(4), x.count(5), x.count(6), x.person(0, 0), x.person(0, 2), x.knot(0, 2)};
        for (int i = 0; i < before.length; i++) {
            DUE.is("held, " + i, then[i], before[i]);
        }
        x.mark(1, false);
        x.shift(3, 0);
        x.mark(1, true);
        DUE.is("s at c", x.person(3, 1), 2);
    }

    private static void seenToo() {
        DUE.about("MARKS .. hold .. what is SEEN");
        HammockNet x = Due.net(NET);
        x.mark(0, false);
        for (int i = 0; i < 8; i++) {
            x.see(0, 1, 1, false);
        }
        x.mark(1, false);
        int[] wills = {x.wills(0), x.wills(1), x.wills(2)};
        DUE.is("10 and more", wills[1], 11);
        x.see(1, 1, 0, true);
        DUE.is("one from b", x.count(8), 1);
        DUE.is("all", x.wills(0), 40);
        x.mark(2, false);
        DUE.is("back to eight", x.mark(1, true), true);
        DUE.is("eight", x.count(8), 8);
        for (int what = 0; what < 3; what++) {
            DUE.is("the same wills", x.wills(what), wills[what]);
        }
        DUE.is("no ninth", x.see(0, 1, 1, true), false);
        DUE.is("back to none", x.mark(0, true), true);
        DUE.is("none", x.count(8), 0);
        DUE.is("ask", x.ask(), -1);
        DUE.is("back to one", x.mark(2, true), true);
        DUE.is("one", x.count(8), 1);
        DUE.is("from b still", x.see(1, 0, 1, true), true);
        DUE.is("two", x.count(8), 2);
    }

    private static void whatTheyDoNotHold() {
        DUE.about("MARKS .. hold all that UNDO brings back, what is SEEN");
        HammockNet x = Due.net(NET);
        Due.readRest(x, "hour ;");
        x.mark(0, false);
        Due.readRest(x, "hour ; hour ; rouse p ;");
        Due.feed(x, "knot");
        x.mark(1, false);
        x.mark(0, true);
        DUE.is("the rest stays", x.count(7), 3);
        DUE.is("the tape stays", x.count(10), 4);
        DUE.is("the other mark stays", x.mark(1, true), true);
    }

    private static void nothingUndone() {
        DUE.about("(nothing can be undone when one is gone back to)");
        HammockNet x = Due.net(NET);
        x.hour();
        x.hour();
        x.mark(0, false);
        DUE.is("two can be", x.count(9), 2);
        x.hour();
        x.mark(0, true);
        DUE.is("none can be", x.count(9), 0);
        DUE.is("undo", x.undo(), false);
        DUE.is("hour 2", x.count(3), 2);
        for (int i = 0; i < 17; i++) {
            x.hour();
        }
        DUE.is("16 can be", x.count(9), 16);
        for (int i = 0; i < 16; i++) {
            DUE.is("undo", x.undo(), true);
        }
        DUE.is("hour 3", x.count(3), 3);
        x.mark(0, true);
        x.hour();
        DUE.is("one can be", x.undo(), true);
        DUE.is("no more", x.undo(), false);
        DUE.is("hour 2", x.count(3), 2);
    }

    private static void laidAnew() {
        DUE.about("A MARK is laid");
        HammockNet x = Due.net(NET);
        x.mark(3, false);
        x.hour();
        DUE.is("over the old one", x.mark(3, false), true);
        x.hour();
        DUE.is("back", x.mark(3, true), true);
        DUE.is("hour 1", x.count(3), 1);
    }

    private static void layingChangesNothing() {
        DUE.about("A MARK is laid .. true");
        HammockNet x = Due.net(NET);
        x.hour();
        x.see(0, 1, 1, true);
        Due.readRest(x, "hour ;");
        Due.feed(x, "knot");
        String before = Due.stateOf(x);
        for (int mark = 0; mark < 4; mark++) {
            x.mark(mark, false);
        }
        DUE.stays("laid marks", x, before);
        DUE.is("undo", x.undo(), true);
        DUE.is("an undo leaves them", x.mark(2, true), true);
        DUE.is("hour 1", x.count(3), 1);
    }

    private static void lastingMarks() {
        DUE.about("back: gone back to");
        HammockNet x = Due.net(NET);
        x.mark(0, false);
        for (int i = 0; i < 5; i++) {
            x.hour();
            x.see(0, 1, 1, true);
            x.tie(0, 2);
            DUE.is("back again", x.mark(0, true), true);
            DUE.is("hour 0", x.count(3), 0);
            DUE.is("none is seen", x.count(8), 0);
            DUE.is("strings as told", x.count(1), 2);
        }
    }

    private static void countOthers() {
        DUE.about("count(int what): .. NONE for another what.");
        HammockNet x = Due.net(NET);
        for (int what : new int[] {-1, -2, 11, 12, 32, Integer.MAX_VALUE, Integer.MIN_VALUE}) {
            DUE.is("count(" + what + ")", x.count(what), -1);
            DUE.is("new count(" + what + ")", new HammockNet().count(what), -1);
        }
    }

    private static void countOfNothing() {
        DUE.about("HammockNet(): Nothing.");
        HammockNet x = new HammockNet();
        for (int what = 0; what <= 10; what++) {
            DUE.is("count(" + what + ")", x.count(what), 0);
        }
    }

    private static void countFull() {
        DUE.about("What 0: KNOTS .. 10: signs on the TAPE.");
        HammockNet x = Due.net(Due.knots(8, "plain", 1) + "person p will 40 at h; person q will 40 at h; person r will 40 at h;"
                + "person s will 40 at h;");
        for (int i = 0; i < 64; i++) {
            x.tie(i / 8, i % 8);
        }
        for (int i = 0; i < 9; i++) {
            x.see(7, 7, 0, true);
        }
        Due.readRest(x, "hour;".repeat(40));
        Due.feed(x, " ".repeat(1001));
        int[] due = {8, 56, 4, 0, 15, 15, 160, 40, 8, 16, 1000};
        for (int what = 0; what < due.length; what++) {
            DUE.is("count(" + what + ")", x.count(what), due[what]);
        }
    }

    private static void countEach() {
        DUE.about("4: who lies, as bits, 5: who is awake, as bits, 6: the will of all, together");
        HammockNet x = Due.net(NET);
        DUE.is("all lie", x.count(4), 15);
        DUE.is("q sleeps", x.count(5), 13);
        DUE.is("44", x.count(6), 44);
        x.rouse(3);
        x.rouse(1);
        DUE.is("p and r lie", x.count(4), 5);
        DUE.is("both awake", x.count(5), 5);
        DUE.is("44 still, who is up too", x.count(6), 44);
        x.hour();
        DUE.is("p fell", x.count(4), 4);
        DUE.is("42", x.count(6), 42);
    }

    private static void fiveHundredAndTwelve() {
        DUE.about("An object is used for at most 512 calls after it has been made; what later calls answer is free.");
        HammockNet x = new HammockNet();
        for (int call = 1; call <= 508; call++) {
            x.hour();
        }
        DUE.is("call 509", x.count(3), 508);
        DUE.is("call 510", x.undo(), true);
        DUE.is("call 511", x.count(9), 15);
        DUE.is("call 512", x.count(3), 507);
    }
}
