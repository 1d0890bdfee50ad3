/** Promises 5 to 13: knot, person, and what is done by hand, undone and judged. */
public final class HandsTest {
    private static final Due DUE = new Due("HandsTest");
    private static final int FAR_OUT = Integer.MAX_VALUE;
    private static final int FAR_DOWN = Integer.MIN_VALUE;
    private static final String FIVE = "knot a plain holds 5; knot b firm holds 8; knot c slip holds 2;"
            + "knot d dent holds 6; knot e plain holds 1; string a b; string a c; string b d; string d a;"
            + "string c e; string b e; against a b; against b a; against c d; against d e; against a e;"
            + "person ann will 6 at a; person bob will 3 at a; person cid will 0 at e;";

    private HandsTest() {
    }

    public static void main(String[] args) {
        knots();
        persons();
        shiftByKind();
        shiftThatCannotBe();
        factsAheadOfShift();
        hours();
        hourInTurn();
        rouseAndLie();
        ties();
        undoOfEach();
        undoOfSixteen();
        judgedLines();
        judgedFromBegin();
        DUE.end();
    }

    private static void knots() {
        HammockNet x = Due.net(FIVE);
        int[] kinds = {0, 1, 2, 3, 0};
        int[] holds = {5, 8, 2, 6, 1};
        int[] leads = {6, 24, 16, 1, 0};
        int[] against = {18, 1, 8, 16, 0};
        int[] lie = {3, 0, 0, 0, 4};
        for (int k = 0; k < 5; k++) {
            DUE.is("knot(" + k + ", 0)", x.knot(k, 0), kinds[k]);
            DUE.is("knot(" + k + ", 1)", x.knot(k, 1), holds[k]);
            DUE.is("knot(" + k + ", 2)", x.knot(k, 2), leads[k]);
            DUE.is("knot(" + k + ", 3)", x.knot(k, 3), against[k]);
            DUE.is("knot(" + k + ", 4)", x.knot(k, 4), lie[k]);
        }
        for (int k : new int[] {-1, 5, 8, FAR_OUT, FAR_DOWN}) {
            DUE.is("knot(" + k + ", 0)", x.knot(k, 0), -1);
        }
        for (int what : new int[] {-1, 5, FAR_OUT, FAR_DOWN}) {
            DUE.is("knot(0, " + what + ")", x.knot(0, what), -1);
        }
        x.rouse(1);
        DUE.is("knot(0, 4) behind rouse", x.knot(0, 4), 1);
        x.tie(0, 4);
        DUE.is("knot(0, 2) behind tie", x.knot(0, 2), 22);
        DUE.is("knot(0, 3) behind tie", x.knot(0, 3), 18);
    }

    private static void persons() {
        HammockNet x = Due.net(FIVE);
        DUE.is("will", x.person(0, 0), 6);
        DUE.is("knot of cid", x.person(2, 1), 4);
        DUE.is("shifts", x.person(0, 2), 0);
        DUE.is("awake", x.person(0, 3), 2);
        DUE.is("asleep", x.person(2, 3), 1);
        x.rouse(0);
        DUE.is("will of one up", x.person(0, 0), 6);
        DUE.is("knot of one up", x.person(0, 1), -1);
        DUE.is("up", x.person(0, 3), 0);
        for (int p : new int[] {-1, 3, 4, FAR_OUT, FAR_DOWN}) {
            DUE.is("person(" + p + ", 0)", x.person(p, 0), -2);
        }
        for (int what : new int[] {-1, 4, FAR_OUT, FAR_DOWN}) {
            DUE.is("person(0, " + what + ")", x.person(0, what), -2);
        }
    }

    /** One of this will shifts to a KNOT told so, by a law. */
    private static HammockNet shifted(String kind, int holds, int will, String law, int due) {
        HammockNet x = Due.net("knot a plain holds 3; knot b " + kind + " holds " + holds + "; string a b;"
                + "person p will " + will + " at a; lulls " + law + ";");
        DUE.is("shift to " + kind + " " + holds + " with " + will + " by " + law, x.shift(0, 1), due);
        return x;
    }

    private static void shiftByKind() {
        DUE.is("plain", shifted("plain", 1, 10, "3", 7).person(0, 1), 1);
        DUE.is("plain to 0", shifted("plain", 1, 3, "3", 0).person(0, 3), 1);
        DUE.is("plain below 0", shifted("plain", 1, 2, "3", 0).person(0, 2), 1);
        DUE.is("nine at most", shifted("plain", 1, 40, "9999", 31).person(0, 3), 2);
        DUE.is("0 at least", shifted("plain", 1, 40, "0 - 5", 40).person(0, 3), 2);
        DUE.is("dent", shifted("dent", 1, 10, "3", 4).person(0, 3), 2);
        DUE.is("dent by 18", shifted("dent", 1, 40, "12", 22).person(0, 3), 2);
        DUE.is("dent to 0", shifted("dent", 1, 5, "3", 0).person(0, 3), 1);
        DUE.is("firm", shifted("firm", 1, 10, "3", 7).person(0, 3), 2);
        DUE.is("firm 1 at least", shifted("firm", 1, 3, "3", 1).person(0, 3), 2);
        DUE.is("firm, 1 stays", shifted("firm", 1, 1, "9", 1).person(0, 3), 2);
        HammockNet falls = shifted("slip", 6, 10, "3", 7);
        DUE.is("slip: up", falls.person(0, 1), -1);
        DUE.is("slip: shifted", falls.person(0, 2), 1);
        DUE.is("slip: up, by 3", falls.person(0, 3), 0);
        DUE.is("slip that holds just that", shifted("slip", 7, 10, "3", 7).person(0, 1), 1);
        DUE.is("slip of 0, asleep", shifted("slip", 0, 3, "3", 0).person(0, 3), 1);
        DUE.is("slip of 0, awake", shifted("slip", 0, 4, "3", 1).person(0, 3), 0);
    }

    private static void shiftThatCannotBe() {
        HammockNet x = Due.net(FIVE);
        DUE.is("along no string", x.shift(0, 3), -1);
        DUE.is("against a string", x.shift(0, 4), -1);
        DUE.is("to where one lies", x.shift(0, 0), -1);
        DUE.is("asleep", x.shift(2, 0), -1);
        x.rouse(0);
        DUE.is("up", x.shift(0, 1), -1);
        for (int each : new int[] {-1, 5, 8, FAR_OUT, FAR_DOWN}) {
            DUE.is("shift(1, " + each + ")", x.shift(1, each), -1);
        }
        for (int each : new int[] {-1, 3, 4, FAR_OUT, FAR_DOWN}) {
            DUE.is("shift(" + each + ", 1)", x.shift(each, 1), -1);
        }
        DUE.is("only rouse can be undone", x.count(9), 1);
        DUE.is("nobody has shifted", x.person(1, 2), 0);
        x.tie(4, 0);
        DUE.is("asleep, along a string", x.shift(2, 0), -1);
    }

    private static void factsAheadOfShift() {
        String net = "knot a plain holds 3; knot b plain holds 7; string a b; string b a;"
                + "person p will 40 at a; person q will 0 at b; person r will 0 at a; person s will 9 at b; lulls ";
        HammockNet x = Due.net(net + "others;");
        DUE.is("two lie at b", x.shift(0, 1), 38);
        DUE.is("one lies at a", x.shift(0, 0), 37);
        x.rouse(1);
        DUE.is("one lies at b now", x.shift(0, 1), 36);
        x = Due.net(net + "many;");
        DUE.is("never shifted ahead", x.shift(0, 1), 40);
        DUE.is("once ahead", x.shift(0, 0), 39);
        DUE.is("twice ahead", x.shift(0, 1), 37);
        x = Due.net(net + "(mind = 40) * 2 + (mind = 38) * 3;");
        DUE.is("40 ahead", x.shift(0, 1), 38);
        DUE.is("38 ahead", x.shift(0, 0), 35);
        DUE.is("neither", x.shift(0, 1), 35);
        x = Due.net(net + "hold;");
        DUE.is("b holds 7", x.shift(0, 1), 33);
        DUE.is("a holds 3", x.shift(0, 0), 30);
    }

    private static void hours() {
        HammockNet x = Due.net("knot a plain holds 5; knot b plain holds 4; knot c plain holds 9; knot d plain holds 9;"
                + "knot e slip holds 9; string a d; string a c; string a b; string b a; string c e; string e d;"
                + "person p will 20 at a; person q will 2 at b; person r will 9 at d; person s will 11 at c;");
        DUE.is("s falls through", x.hour(), 8);
        DUE.is("one hour", x.count(3), 1);
        DUE.is("the most, the first of equal ones", x.person(0, 1), 2);
        DUE.is("q to a", x.person(1, 1), 0);
        DUE.is("no string: stays", x.person(2, 1), 3);
        DUE.is("no string: no shift", x.person(2, 2), 0);
        DUE.is("no string: the will stays", x.person(2, 0), 9);
        DUE.is("s up, lulled", x.person(3, 0), 10);
        DUE.is("p falls through", x.hour(), 1);
        DUE.is("q asleep at c", x.person(1, 3), 1);
        DUE.is("nobody falls", x.hour(), 0);
        DUE.is("one asleep stays", x.person(1, 1), 2);
        DUE.is("one up stays up", x.person(0, 1), -1);
        DUE.is("three hours", x.count(3), 3);
        x = Due.net("knot a plain holds 1; knot b slip holds 1; string a b; person p will 9 at a;"
                + "person q will 1 at a; person r will 9 at a;");
        DUE.is("two fall through at once", x.hour(), 5);
    }

    /** The second one comes to where the first one lies already, and the first one has left. */
    private static void hourInTurn() {
        HammockNet x = Due.net("knot a plain holds 5; knot b plain holds 4; string a b; string b a;"
                + "person p will 20 at a; person q will 20 at a; person r will 20 at b; lulls 1 + others;");
        x.hour();
        DUE.is("p meets r", x.person(0, 0), 18);
        DUE.is("q meets p and r", x.person(1, 0), 17);
        DUE.is("r meets nobody, they have left", x.person(2, 0), 19);
    }

    private static void rouseAndLie() {
        HammockNet x = Due.net(FIVE);
        DUE.is("lie of one who lies", x.lie(0, 1), false);
        DUE.is("lie of one asleep", x.lie(2, 1), false);
        DUE.is("rouse ann", x.rouse(0), 0);
        DUE.is("rouse her again", x.rouse(0), -1);
        DUE.is("rouse cid, asleep", x.rouse(2), 4);
        DUE.is("cid is up with a will of 0", x.person(2, 3), 0);
        DUE.is("lie", x.lie(0, 2), true);
        DUE.is("at a slip, not through it", x.person(0, 1), 2);
        DUE.is("lying is no shift", x.person(0, 2), 0);
        DUE.is("the will stays", x.person(0, 0), 6);
        DUE.is("cid lies", x.lie(2, 1), true);
        DUE.is("asleep as his will is, on a firm one", x.person(2, 3), 1);
        x.rouse(1);
        for (int each : new int[] {-1, 5, 8, FAR_OUT, FAR_DOWN}) {
            DUE.is("lie(1, " + each + ")", x.lie(1, each), false);
        }
        for (int each : new int[] {-1, 3, 4, FAR_OUT, FAR_DOWN}) {
            DUE.is("lie(" + each + ", 0)", x.lie(each, 0), false);
            DUE.is("rouse(" + each + ")", x.rouse(each), -1);
        }
        DUE.is("what could be", x.count(9), 5);
    }

    private static void ties() {
        HammockNet x = Due.net(FIVE);
        DUE.is("tie off", x.tie(0, 1), 0);
        DUE.is("no string there", x.shift(0, 1), -1);
        DUE.is("tie on", x.tie(0, 4), 1);
        DUE.is("along it", x.shift(0, 4), 5);
        DUE.is("the other way is another string", x.tie(1, 0), 1);
        DUE.is("on again", x.tie(0, 1), 1);
        DUE.is("the same", x.tie(2, 2), -1);
        for (int each : new int[] {-1, 5, 8, FAR_OUT, FAR_DOWN}) {
            DUE.is("tie(0, " + each + ")", x.tie(0, each), -1);
            DUE.is("tie(" + each + ", 0)", x.tie(each, 0), -1);
        }
        DUE.is("strings", x.count(1), 8);
        StringBuilder eight = new StringBuilder();
        for (char each = 'a'; each <= 'h'; each++) {
            eight.append("knot ").append(each).append(" plain holds 1;");
        }
        x = Due.net(eight.toString());
        for (int i = 0; i < 64; i++) {
            DUE.is("tie all", x.tie(i / 8, i % 8), i / 8 == i % 8 ? -1 : 1);
        }
        DUE.is("more than 16 strings", x.count(1), 56);
        DUE.is("walks among all", x.walks(0, 0, 9), (40353607 - 7) / 8);
    }

    private static void undoOfEach() {
        HammockNet x = Due.net(FIVE);
        DUE.is("nothing", x.undo(), false);
        x.shift(0, 2);
        DUE.is("fell", x.person(0, 1), -1);
        x.hour();
        x.rouse(2);
        x.lie(2, 0);
        x.tie(0, 1);
        DUE.is("five", x.count(9), 5);
        DUE.is("undo tie", x.undo(), true);
        DUE.is("string is there", x.knot(0, 2), 6);
        DUE.is("undo lie", x.undo(), true);
        DUE.is("cid up", x.person(2, 1), -1);
        DUE.is("undo rouse", x.undo(), true);
        DUE.is("cid at e", x.person(2, 1), 4);
        DUE.is("undo hour", x.undo(), true);
        DUE.is("the hour", x.count(3), 0);
        DUE.is("bob at a", x.person(1, 1), 0);
        DUE.is("his will", x.person(1, 0), 3);
        DUE.is("undo shift", x.undo(), true);
        DUE.is("ann at a", x.person(0, 1), 0);
        DUE.is("her will", x.person(0, 0), 6);
        DUE.is("her shifts", x.person(0, 2), 0);
        DUE.is("no more", x.undo(), false);
        DUE.is("none can be", x.count(9), 0);
    }

    private static void undoOfSixteen() {
        HammockNet x = new HammockNet();
        for (int i = 0; i < 40; i++) {
            x.hour();
        }
        DUE.is("16 can be", x.count(9), 16);
        for (int i = 0; i < 10; i++) {
            DUE.is("undo", x.undo(), true);
        }
        DUE.is("30 hours", x.count(3), 30);
        for (int i = 0; i < 3; i++) {
            x.hour();
        }
        DUE.is("9 can be", x.count(9), 9);
        for (int i = 0; i < 9; i++) {
            DUE.is("undo", x.undo(), true);
        }
        DUE.is("24 hours", x.count(3), 24);
        DUE.is("17th", x.undo(), false);
        DUE.is("24 hours still", x.count(3), 24);
    }

    private static void judged(HammockNet x, String rest, int cannot, int falls, int asleep) {
        DUE.is("rest " + rest, Due.readRest(x, rest), 0);
        DUE.is("judged(0) of " + rest, x.judged(0), cannot);
        DUE.is("judged(1) of " + rest, x.judged(1), falls);
        DUE.is("judged(2) of " + rest, x.judged(2), asleep);
    }

    private static void judgedLines() {
        HammockNet x = Due.net(FIVE);
        judged(x, "", -1, -1, 1);
        judged(x, "hour ; hour ; hour ;", -1, -1, 2);
        judged(x, "shift ann b; shift ann a; shift ann d;", 1, -1, 1);
        judged(x, "shift cid a;", 0, -1, 1);
        judged(x, "rouse ann; shift ann b;", 1, -1, 1);
        judged(x, "rouse cid;", -1, -1, 0);
        judged(x, "rouse cid; rouse cid; lie cid c;", 1, -1, 1);
        judged(x, "lie ann c;", 0, -1, 1);
        judged(x, "rouse ann; lie ann c; lie ann b;", 2, -1, 1);
        judged(x, "tie a e; shift ann e; tie a e; shift bob e;", 3, -1, 1);
        judged(x, "shift bob c; shift ann c; shift ann c;", 2, 1, 1);
        judged(x, "shift bob c; hour; hour;", -1, -1, 1);
        judged(x, "tie a b; shift cid a; hour; hour; rouse bob;", 1, 2, 1);
        judged(x, "tie a b; tie e a; hour; hour; hour; rouse ann;", 5, 2, 2);
        for (int what : new int[] {-1, 3, FAR_OUT, FAR_DOWN}) {
            DUE.is("judged(" + what + ")", x.judged(what), -2);
        }
        HammockNet none = new HammockNet();
        judged(none, "hour;", -1, -1, 0);
    }

    /** Judged from the begin, whatever has been done; and it does nothing. */
    private static void judgedFromBegin() {
        HammockNet x = Due.net(FIVE);
        x.tie(0, 1);
        x.rouse(0);
        x.hour();
        judged(x, "shift ann b; hour;", -1, -1, 1);
        DUE.is("ann is up still", x.person(0, 1), -1);
        DUE.is("the hour", x.count(3), 1);
        DUE.is("a to b is off still", x.knot(0, 2), 4);
        DUE.is("undo of the hour", x.undo(), true);
        DUE.is("lines stay behind undo", x.count(7), 2);
    }
}
