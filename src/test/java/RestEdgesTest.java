/** The edges of a REST: how many lines, which names, and what is judged of it. */
public final class RestEdgesTest {
    private static final Due DUE = new Due("RestEdgesTest");
    /** A ring of a and b, a slip c behind b; p falls through there with more than 2; q sleeps at a. */
    private static final String NET = "knot a plain holds 5; knot b plain holds 5; knot c slip holds 2; string a b;"
            + "string b a; string b c; person p will 9 at a; person q will 0 at a;";

    private RestEdgesTest() {
    }

    public static void main(String[] args) {
        anyNumberUpToForty();
        lines();
        names();
        reservedNames();
        cannotStandThere();
        endIsAToken();
        staysByAFault();
        isTheRest();
        ofNoNet();
        lineThatCannotBe();
        leftOut();
        lineOfTheFall();
        asleepAtLast();
        lastLine();
        fromTheBegin();
        judgedOthers();
        DUE.end();
    }

    private static void fault(String text, int kind, int place) {
        HammockNet x = Due.net(NET);
        DUE.is("rest of " + text, Due.readRest(x, text), Due.fault(kind, place));
        DUE.is("lines behind the fault of " + text, x.count(7), 0);
    }

    private static void fine(String text, int lines) {
        HammockNet x = Due.net(NET);
        DUE.is("rest of " + text, Due.readRest(x, text), 0);
        DUE.is("lines of " + text, x.count(7), lines);
    }

    private static void anyNumberUpToForty() {
        DUE.about("any number of .. 40 lines at most .. 5 one too many .. the first word of a 41st line of a REST");
        fine("", 0);
        fine(" \n", 0);
        fine("hour ;", 1);
        fine("hour;".repeat(39), 39);
        fine("hour;".repeat(40), 40);
        fine("tie a b;".repeat(40) + "\n", 40);
        for (String line : new String[] {"hour ;", "shift p b ;", "rouse p ;", "lie p a ;", "tie a b ;", "hour", "tie z"}) {
            fault("hour;".repeat(40) + line, 5, 200);
        }
        fault("hour;".repeat(40) + "knot", 1, 200);
        fault("hour;".repeat(40) + ";", 1, 200);
        fault("hour;".repeat(40) + "7", 1, 200);
        fault("hour;".repeat(39) + "hour", 1, 199);
        fault("hour;".repeat(39) + "rouse z ;", 2, 201);
    }

    private static void lines() {
        DUE.about("hour ;   shift NAME NAME ;   rouse NAME ;   lie NAME NAME ;   tie NAME NAME ;");
        fine("hour ; shift p b ; rouse p ; lie p a ; tie a b ;", 5);
        fine("tie b a ; tie a b ; shift q c ; lie q c ; rouse q ;", 5);
        fault("knot a plain holds 1 ;", 1, 0);
        fault("lulls 1 ;", 1, 0);
        fault("p ;", 1, 0);
        fault("; hour ;", 1, 0);
        fault("hours ;", 1, 0);
        fault("hour hour ;", 1, 5);
        fault("rouse p p ;", 1, 8);
        fault("rouse p a ;", 1, 8);
        fault("shift p a b ;", 1, 10);
        fault("lie p a p ;", 1, 8);
        fault("tie a b c ;", 1, 8);
    }

    private static void names() {
        DUE.about("(a PERSON to a KNOT; a PERSON; a PERSON at a KNOT; two KNOTS, not the same)");
        fault("shift a b ;", 2, 6);
        fault("shift z b ;", 2, 6);
        fault("shift p q ;", 2, 8);
        fault("shift p z ;", 2, 8);
        fault("rouse a ;", 2, 6);
        fault("rouse z ;", 2, 6);
        fault("lie a b ;", 2, 4);
        fault("lie p q ;", 2, 6);
        fault("lie p z ;", 2, 6);
        fault("tie p a ;", 2, 4);
        fault("tie z a ;", 2, 4);
        fault("tie a p ;", 2, 6);
        fault("tie a z ;", 2, 6);
        fault("tie a a ;", 3, 6);
        fault("tie c c ;", 3, 6);
        fine("tie a b ; tie a b ; tie b a ; shift p a ; lie p a ;", 5);
        fault("shift z z ;", 2, 6);
        fault("tie z z ;", 2, 4);
    }

    private static void reservedNames() {
        DUE.about("A NAME is another WORD than knot, holds, .. and, or");
        String[] others = {"5", ";", "(", "A", "abcdefghi"};
        for (String word : Due.RESERVED) {
            wrongName(word);
        }
        for (String word : others) {
            wrongName(word);
        }
    }

    private static void wrongName(String word) {
        fault("shift " + word + " b ;", 1, 6);
        fault("shift p " + word + " ;", 1, 8);
        fault("rouse " + word + " ;", 1, 6);
        fault("lie " + word + " b ;", 1, 4);
        fault("lie p " + word + " ;", 1, 6);
        fault("tie " + word + " b ;", 1, 4);
        fault("tie a " + word + " ;", 1, 6);
    }

    private static void cannotStandThere() {
        DUE.about("1 it is none, or can't stand there");
        for (String word : Due.RESERVED) {
            boolean begins = word.equals("hour") || word.equals("shift") || word.equals("rouse") || word.equals("lie")
                    || word.equals("tie");
            fault(word + " ~", 1, begins ? word.length() + 1 : 0);
        }
        for (String other : new String[] {"1", "x", "*", "~", "abcdefghi", "12345"}) {
            fault(other, 1, 0);
            fault("hour ; " + other, 1, 7);
            fault("hour " + other, 1, 5);
        }
    }

    private static void endIsAToken() {
        DUE.about("the end being one at the text's length");
        String[] cuts = {"hour", "shift", "shift p", "shift p b", "rouse", "rouse p", "lie", "lie p", "lie p b", "tie",
            "tie a", "tie a b"};
        for (String cut : cuts) {
            fault(cut, 1, cut.length());
            fault(cut + "  ", 1, cut.length() + 2);
            fault("hour ; " + cut, 1, cut.length() + 7);
        }
    }

    private static void staysByAFault() {
        DUE.about("rest(): The TAPE is read as a REST, likewise.");
        HammockNet x = Due.net(NET);
        Due.readRest(x, "shift p b ; shift p c ; rouse p ;");
        x.hour();
        x.see(0, 1, 1, true);
        String before = Due.stateOf(x);
        for (String text : new String[] {"hour ; hour", "rouse p ; lie q q ;", "hour;".repeat(41), "tie a a ;", "knot"}) {
            DUE.is("a faulty rest", Due.readRest(x, text) > 0, true);
            DUE.stays("the faulty rest " + text, x, before);
        }
    }

    private static void isTheRest() {
        DUE.about("A REST is the REST.");
        HammockNet x = Due.net(NET);
        x.hour();
        x.mark(1, false);
        x.hour();
        x.see(0, 1, 1, true);
        Due.readRest(x, "shift p b ; shift p c ; rouse p ;");
        DUE.is("three lines", x.count(7), 3);
        Due.readRest(x, "rouse p ;");
        DUE.is("one line", x.count(7), 1);
        DUE.is("no fall", x.judged(1), -1);
        DUE.is("the hour stays", x.count(3), 2);
        DUE.is("what is seen stays", x.count(8), 1);
        DUE.is("undo stays", x.count(9), 2);
        DUE.is("an empty one", x.rest(), 0);
        DUE.is("no line", x.count(7), 0);
        DUE.is("the mark stays", x.mark(1, true), true);
    }

    private static void ofNoNet() {
        DUE.about("At first: nothing.");
        HammockNet x = new HammockNet();
        DUE.is("hours", Due.readRest(x, "hour ; hour ;"), 0);
        DUE.is("two", x.count(7), 2);
        DUE.is("who?", Due.readRest(x, "rouse p ;"), Due.fault(2, 6));
        DUE.is("where?", Due.readRest(x, "tie a b ;"), Due.fault(2, 4));
        DUE.is("two still", x.count(7), 2);
        DUE.is("all can be", x.judged(0), -1);
        DUE.is("nobody falls", x.judged(1), -1);
        DUE.is("nobody sleeps", x.judged(2), 0);
    }

    private static void judged(String rest, int cannot, int fall, int asleep) {
        HammockNet x = Due.net(NET);
        DUE.is("rest of " + rest, Due.readRest(x, rest), 0);
        DUE.is("judged(0) of " + rest, x.judged(0), cannot);
        DUE.is("judged(1) of " + rest, x.judged(1), fall);
        DUE.is("judged(2) of " + rest, x.judged(2), asleep);
    }

    private static void lineThatCannotBe() {
        DUE.about("the first line (from 0) that can't be (shift of one not awake, along no string; rouse of one who is UP; "
                + "lie of one who lies");
        judged("", -1, -1, 1);
        judged("shift q b;", 0, -1, 1);
        judged("rouse p; shift p b;", 1, -1, 1);
        judged("shift p c;", 0, -1, 1);
        judged("hour; shift p a; shift p c;", 2, -1, 1);
        judged("rouse p; rouse p;", 1, -1, 1);
        judged("rouse q; rouse q;", 1, -1, 0);
        judged("lie p b;", 0, -1, 1);
        judged("lie q a;", 0, -1, 1);
        judged("rouse p; lie p b; lie p a;", 2, -1, 1);
        judged("hour; shift p b; shift p c; rouse p;", 1, 2, 1);
        judged("hour; hour; tie a b; tie a b;", -1, -1, 1);
        judged("tie a b; shift p b;", 1, -1, 1);
        judged("tie a c; shift p b; shift p b; shift q c;", 2, -1, 1);
    }

    private static void leftOut() {
        DUE.about("lines that can't be are left out");
        judged("shift p c; shift p b; shift p a; shift p b; shift p a; shift p b; shift p a; shift p b; hour; hour;", 0, -1, 2);
        judged("lie p b; shift p b;", 0, -1, 1);
        judged("lie q c; rouse q; lie q c; lie q a; shift p b; shift p c;", 0, 5, 1);
        judged("shift q b; shift q b; rouse q; rouse q;", 0, -1, 0);
    }

    private static void lineOfTheFall() {
        DUE.about("the first line by which a PERSON falls through");
        judged("shift p b; shift p c;", -1, 1, 1);
        judged("tie b a; hour; hour;", -1, 2, 1);
        judged("shift p b; shift p c; lie p b; shift p c;", -1, 1, 1);
        judged("shift p c; tie a c; shift p c; rouse p;", 0, 2, 1);
        judged("rouse p; lie p c;", -1, -1, 1);
        // held with just 2
        judged("hour; hour; hour; hour; hour; hour; tie a c; shift p c; shift p c;", 8, -1, 1);
        // 3 is too much
        judged("hour; hour; hour; hour; hour; shift p c;", -1, 5, 1);
    }

    private static void asleepAtLast() {
        DUE.about("how many are asleep at last");
        judged("rouse q;", -1, -1, 0);
        judged("rouse q; lie q c;", -1, -1, 1);
        judged("hour;".repeat(8), -1, -1, 1);
        judged("hour;".repeat(9), -1, -1, 2);
        judged("hour;".repeat(9) + "rouse p; rouse q;", -1, -1, 0);
        HammockNet x = Due.net("knot a plain holds 1; person p will 0 at a; person q will 0 at a; person r will 0 at a;"
                + "person s will 0 at a;");
        DUE.is("all four", x.judged(2), 4);
        DUE.is("without one", Due.readRest(x, "rouse r;"), 0);
        DUE.is("three", x.judged(2), 3);
    }

    private static void lastLine() {
        DUE.about("40 lines at most .. the first line (from 0)");
        judged("hour;".repeat(39) + "lie p a;", 39, -1, 2);
        judged("tie a c; tie a c;".repeat(19) + "tie a c; shift p c;", -1, 39, 1);
        judged("tie a c; tie a c;".repeat(19) + "hour; rouse q;", -1, -1, 0);
        judged("lie p a; tie a c;" + "tie b c; tie b c;".repeat(18) + "shift p c; rouse p;", 0, 38, 1);
    }

    private static void fromTheBegin() {
        DUE.about("JUDGED: the REST from the begin");
        HammockNet x = Due.net(NET);
        Due.readRest(x, "shift p b; shift p c;");
        for (int i = 0; i < 12; i++) {
            x.hour();
        }
        x.tie(0, 1);
        x.rouse(1);
        DUE.is("it can be", x.judged(0), -1);
        DUE.is("the fall", x.judged(1), 1);
        DUE.is("q sleeps", x.judged(2), 1);
        DUE.is("again", x.judged(1), 1);
        DUE.is("p sleeps", x.person(0, 3), 1);
        DUE.is("q is up", x.person(1, 3), 0);
        DUE.is("no string", x.knot(0, 2), 0);
        DUE.is("hours", x.count(3), 12);
        DUE.is("14 can be undone", x.count(9), 14);
    }

    private static void judgedOthers() {
        DUE.about("judged(int what): .. -2: others");
        HammockNet x = Due.net(NET);
        for (int what : new int[] {-1, -2, 3, 4, Integer.MAX_VALUE, Integer.MIN_VALUE}) {
            DUE.is("judged(" + what + ")", x.judged(what), -2);
            DUE.is("new judged(" + what + ")", new HammockNet().judged(what), -2);
        }
        for (int what = 0; what < 3; what++) {
            DUE.is("judged(" + what + ")", x.judged(what), what < 2 ? -1 : 1);
        }
    }
}
