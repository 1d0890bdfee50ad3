/** The edges of promises 5 to 12 and of section 2 of the Terms: what is, and what is done by hand and undone. */
public final class HandsEdgesTest {
    private static final Due DUE = new Due("HandsEdgesTest");
    private static final int[] NO_KNOT = {-1, -2, 3, 4, 7, 8, 9, 31, 32, 33, 64, Integer.MAX_VALUE, Integer.MIN_VALUE};
    private static final int[] NO_PERSON = {-1, -2, 3, 4, 5, 31, 32, 33, 64, Integer.MAX_VALUE, Integer.MIN_VALUE};
    /** p awake at a, q asleep at b, r awake at b; a ring of a and b, c alone. */
    private static final String NET = "knot a plain holds 5; knot b slip holds 9; knot c firm holds 0; string a b; string b a;"
            + "against a b; person p will 8 at a; person q will 0 at b; person r will 3 at b;";

    private HandsEdgesTest() {
    }

    public static void main(String[] args) {
        knotOthers();
        lastKnot();
        personOthers();
        threeStates();
        keptWithinNine();
        dentTwice();
        zeroAtLeast();
        firmOneAtLeast();
        slipThatHolds();
        slipEdges();
        shiftOnlyWhoIsAwake();
        shiftAlongStrings();
        shiftOthers();
        hourTheMost();
        hourStays();
        hourByNumbers();
        hourOfNobody();
        hourBits();
        rouseWhoLies();
        rouseOthers();
        lieWhoIsUp();
        lieOthers();
        tieBothWays();
        tieOthers();
        undoEach();
        undoLastSixteen();
        refusedIsNotUndone();
        nothingToUndo();
        DUE.end();
    }

    private static void knotOthers() {
        DUE.about("knot(int knot, int what): .. NONE: others");
        HammockNet x = Due.net(NET);
        for (int knot : NO_KNOT) {
            for (int what = 0; what < 5; what++) {
                DUE.is("knot(" + knot + ", " + what + ")", x.knot(knot, what), -1);
            }
        }
        for (int what : new int[] {-1, 5, 6, Integer.MAX_VALUE, Integer.MIN_VALUE}) {
            DUE.is("knot(0, " + what + ")", x.knot(0, what), -1);
        }
        for (int what = -1; what < 6; what++) {
            DUE.is("knot(0, " + what + ") of no net", new HammockNet().knot(0, what), -1);
        }
    }

    private static void lastKnot() {
        DUE.about("knot(int knot, int what): Of a KNOT");
        HammockNet x = Due.net(Due.knots(7, "plain", 0) + "knot h dent holds 20; string h a; string h g; against h a;"
                + "against h g; person p will 1 at h; person q will 0 at h; person r will 1 at a; person s will 40 at h;");
        int[] due = {3, 20, 65, 65, 11};
        int[] first = {0, 0, 0, 0, 4};
        for (int what = 0; what < 5; what++) {
            DUE.is("knot(7, " + what + ")", x.knot(7, what), due[what]);
            DUE.is("knot(0, " + what + ")", x.knot(0, what), first[what]);
        }
        x.rouse(3);
        x.rouse(1);
        DUE.is("who lies at h", x.knot(7, 4), 1);
        x.tie(7, 0);
        DUE.is("strings from h", x.knot(7, 2), 64);
        x.shift(0, 6);
        DUE.is("who lies at h", x.knot(7, 4), 0);
        DUE.is("who lies at g", x.knot(6, 4), 1);
    }

    private static void personOthers() {
        DUE.about("person(int person, int what): .. -2: others");
        HammockNet x = Due.net(NET);
        for (int person : NO_PERSON) {
            for (int what = 0; what < 4; what++) {
                DUE.is("person(" + person + ", " + what + ")", x.person(person, what), -2);
            }
        }
        for (int what : new int[] {-1, -2, 4, 5, Integer.MAX_VALUE, Integer.MIN_VALUE}) {
            DUE.is("person(0, " + what + ")", x.person(0, what), -2);
        }
        DUE.is("person of no net", new HammockNet().person(0, 0), -2);
        DUE.is("a knot, but no person", Due.net("knot a plain holds 1;").person(0, 0), -2);
    }

    private static void threeStates() {
        DUE.about("A PERSON is UP, or lies at a KNOT: asleep if their will is 0, else awake.");
        HammockNet x = Due.net("knot a plain holds 1; person p will 0 at a; person q will 1 at a; person r will 40 at a;");
        for (int person = 0; person < 3; person++) {
            DUE.is("lies: " + person, x.person(person, 3), person == 0 ? 1 : 2);
            DUE.is("at a: " + person, x.person(person, 1), 0);
            x.rouse(person);
            DUE.is("is up: " + person, x.person(person, 3), 0);
            DUE.is("at none: " + person, x.person(person, 1), -1);
        }
        DUE.is("the will of one up stays", x.person(2, 0), 40);
        DUE.is("awake", x.count(5), 0);
        DUE.is("lie", x.count(4), 0);
    }

    /** What is left of a will by a shift to such a KNOT. */
    private static int left(String kind, int holds, int will, String law) {
        HammockNet x = Due.net("knot a plain holds 5; knot b " + kind + " holds " + holds + "; string a b; person p will "
                + will + " at a; lulls " + law + ";");
        int left = x.shift(0, 1);
        DUE.is("shift answers the will", left, x.person(0, 0));
        DUE.is("one has shifted", x.person(0, 2), 1);
        return left;
    }

    private static void keptWithinNine() {
        DUE.about("their will is less by the E of lulls (kept within 0 to 9)");
        String[] laws = {"0 - 9999", "0 - 10", "0 - 1", "0", "1", "8", "9", "10", "11", "9999", "8192 * 8192 * 32"};
        int[] due = {40, 40, 40, 40, 39, 32, 31, 31, 31, 31, 40};
        for (int i = 0; i < laws.length; i++) {
            DUE.is("40 by " + laws[i], left("plain", 5, 40, laws[i]), due[i]);
            DUE.is("40 by " + laws[i] + " at a firm one", left("firm", 5, 40, laws[i]), due[i]);
        }
    }

    private static void dentTwice() {
        DUE.about("at a dent by twice that");
        String[] laws = {"0 - 1", "0", "1", "4", "8", "9", "10", "9999"};
        int[] due = {40, 40, 38, 32, 24, 22, 22, 22};
        for (int i = 0; i < laws.length; i++) {
            DUE.is("40 at a dent by " + laws[i], left("dent", 5, 40, laws[i]), due[i]);
        }
    }

    private static void zeroAtLeast() {
        DUE.about("0 at least");
        DUE.is("plain: just all", left("plain", 5, 9, "9"), 0);
        DUE.is("plain: one more", left("plain", 5, 8, "9"), 0);
        DUE.is("plain: one less", left("plain", 5, 10, "9"), 1);
        DUE.is("plain: of 1", left("plain", 5, 1, "9"), 0);
        DUE.is("dent: just all", left("dent", 5, 18, "9"), 0);
        DUE.is("dent: one more", left("dent", 5, 17, "9"), 0);
        DUE.is("dent: one less", left("dent", 5, 19, "9"), 1);
        DUE.is("slip: just all", left("slip", 0, 9, "9"), 0);
        DUE.is("slip: one more", left("slip", 0, 8, "9"), 0);
    }

    private static void firmOneAtLeast() {
        DUE.about("at a firm KNOT 1 at least");
        DUE.is("just 1", left("firm", 5, 10, "9"), 1);
        DUE.is("not 0", left("firm", 5, 9, "9"), 1);
        DUE.is("not below", left("firm", 5, 8, "9"), 1);
        DUE.is("1 stays", left("firm", 5, 1, "9"), 1);
        DUE.is("1 by 0", left("firm", 5, 1, "0"), 1);
        DUE.is("2 above", left("firm", 5, 11, "9"), 2);
        HammockNet x = Due.net("knot a firm holds 5; person p will 0 at a;");
        DUE.is("told asleep at a firm one", x.person(0, 3), 1);
    }

    private static int stateBehind(int holds, int will, int lull) {
        HammockNet x = Due.net("knot a plain holds 5; knot b slip holds " + holds + "; string a b; person p will " + will
                + " at a; lulls " + lull + ";");
        DUE.is("the will then", x.shift(0, 1), Math.max(0, will - lull));
        int state = x.person(0, 3);
        DUE.is("where", x.person(0, 1), state == 0 ? -1 : 1);
        return state;
    }

    private static void slipThatHolds() {
        DUE.about("At a slip that holds less than their will is then they fall through: they are UP.");
        DUE.is("holds just that", stateBehind(7, 10, 3), 2);
        DUE.is("holds one less", stateBehind(6, 10, 3), 0);
        DUE.is("holds one more", stateBehind(8, 10, 3), 2);
        DUE.is("the will ahead is more", stateBehind(9, 10, 1), 2);
    }

    private static void slipEdges() {
        DUE.about("At a slip that holds less than their will is then");
        DUE.is("0 holds 0", stateBehind(0, 9, 9), 1);
        DUE.is("0 holds no 1", stateBehind(0, 10, 9), 0);
        DUE.is("20 holds 20", stateBehind(20, 29, 9), 2);
        DUE.is("20 holds no 21", stateBehind(20, 30, 9), 0);
        DUE.is("20 holds no 40", stateBehind(20, 40, 0), 0);
        for (String kind : new String[] {"plain", "firm", "dent"}) {
            HammockNet x = Due.net("knot a plain holds 5; knot b " + kind + " holds 0; string a b; person p will 40 at a;");
            x.shift(0, 1);
            DUE.is("no fall at a " + kind + " one", x.person(0, 1), 1);
        }
        HammockNet x = Due.net("knot a slip holds 0; knot b slip holds 0; string a b; person p will 9 at a;");
        DUE.is("told there, no fall", x.person(0, 3), 2);
        DUE.is("nor by an hour without a string", Due.net("knot a slip holds 0; person p will 9 at a;").hour(), 0);
    }

    private static void shiftOnlyWhoIsAwake() {
        DUE.about("SHIFT: one who is awake goes");
        HammockNet x = Due.net(NET);
        DUE.is("q is asleep", x.shift(1, 0), -1);
        DUE.is("r is awake", x.shift(2, 0), 2);
        x.rouse(0);
        DUE.is("p is up", x.shift(0, 1), -1);
        x.lie(0, 0);
        DUE.is("p lies again", x.shift(0, 1), 7);
        HammockNet y = Due.net(NET + "lulls 3;");
        DUE.is("r falls asleep", y.shift(2, 0), 0);
        DUE.is("and shifts no more", y.shift(2, 1), -1);
        y = Due.net(NET + "lulls 0;");
        DUE.is("p with just 9", y.tie(0, 2), 1);
        DUE.is("firm c", y.shift(0, 2), 8);
        DUE.is("no string from c", y.shift(0, 0), -1);
    }

    private static void shiftAlongStrings() {
        DUE.about("to a KNOT to which a string leads from where they lie");
        HammockNet x = Due.net(NET);
        DUE.is("no string", x.shift(0, 2), -1);
        DUE.is("itself", x.shift(0, 0), -1);
        x.tie(2, 0);
        DUE.is("a string the other way", x.shift(0, 2), -1);
        x.tie(0, 2);
        DUE.is("a string", x.shift(0, 2), 7);
        DUE.is("and back", x.shift(0, 0), 6);
        x.tie(0, 1);
        DUE.is("no more", x.shift(0, 1), -1);
    }

    private static void shiftOthers() {
        DUE.about("shift(int person, int knot): .. NONE: others, it can't be");
        HammockNet x = Due.net(NET);
        String before = Due.stateOf(x);
        for (int person : NO_PERSON) {
            DUE.is("shift(" + person + ", 1)", x.shift(person, 1), -1);
        }
        for (int knot : NO_KNOT) {
            DUE.is("shift(0, " + knot + ")", x.shift(0, knot), -1);
        }
        DUE.is("asleep", x.shift(1, 0), -1);
        DUE.is("along no string", x.shift(0, 2), -1);
        DUE.stays("refused shifts", x, before);
        DUE.is("shift of no net", new HammockNet().shift(0, 0), -1);
    }

    private static void hourTheMost() {
        DUE.about("HOUR: .. to the KNOT, of those to which strings lead from there, that holds the most, of equal ones the first");
        HammockNet x = Due.net("knot a plain holds 20; knot b plain holds 7; knot c plain holds 8; knot d plain holds 8;"
                + "knot e plain holds 20; string b e; string a d; string a c; string a b; person p will 9 at a;"
                + "person q will 9 at b;");
        x.hour();
        DUE.is("c, the first of those that hold 8", x.person(0, 1), 2);
        DUE.is("e", x.person(1, 1), 4);
        x = Due.net(Due.knots(8, "plain", 0) + "string a h; person p will 9 at a;");
        x.hour();
        DUE.is("h, that holds 0", x.person(0, 1), 7);
        x = Due.net(Due.knots(8, "plain", 20) + "string h a; string h b; person p will 9 at h;");
        x.hour();
        DUE.is("a, the first of all", x.person(0, 1), 0);
        x = Due.net("knot a plain holds 5; knot b plain holds 6; string a b; string b a; person p will 9 at b;");
        x.hour();
        DUE.is("though b holds more", x.person(0, 1), 0);
    }

    private static void hourStays() {
        DUE.about("(none: stays)");
        HammockNet x = Due.net("knot a plain holds 5; knot b plain holds 6; string b a; person p will 9 at a;"
                + "person q will 0 at b; person r will 4 at b;");
        x.rouse(2);
        DUE.is("hour", x.hour(), 0);
        DUE.is("stays", x.person(0, 1), 0);
        DUE.is("the will stays", x.person(0, 0), 9);
        DUE.is("it is no shift", x.person(0, 2), 0);
        DUE.is("asleep stays", x.person(1, 1), 1);
        DUE.is("asleep shifts not", x.person(1, 2), 0);
        DUE.is("up stays up", x.person(2, 3), 0);
        DUE.is("up shifts not", x.person(2, 2), 0);
        DUE.is("the will of one up stays", x.person(2, 0), 4);
    }

    private static void hourByNumbers() {
        DUE.about("HOUR: by numbers, each who is awake SHIFTS");
        String ring = "knot a plain holds 5; knot b plain holds 5; string a b; string b a;";
        HammockNet x = Due.net(ring + "person p will 9 at a; person q will 9 at b; lulls 1 + others * 3;");
        x.hour();
        DUE.is("p comes to q", x.person(0, 0), 5);
        DUE.is("q comes where p was", x.person(1, 0), 8);
        x = Due.net(ring + "person p will 9 at a; person q will 9 at a; lulls 1 + others * 3;");
        x.hour();
        DUE.is("p is alone", x.person(0, 0), 8);
        DUE.is("q comes to p", x.person(1, 0), 5);
        x = Due.net("knot a plain holds 5; knot b slip holds 5; string a b; person p will 9 at a; person q will 9 at a;"
                + "lulls 1 + others * 3;");
        DUE.is("both fall", x.hour(), 3);
        DUE.is("p lulled nobody, being up", x.person(1, 0), 8);
    }

    private static void hourOfNobody() {
        DUE.about("the next hour is");
        HammockNet x = new HammockNet();
        DUE.is("an hour of no net", x.hour(), 0);
        DUE.is("1", x.count(3), 1);
        x = Due.net("knot a plain holds 1; person p will 0 at a;");
        for (int hour = 1; hour <= 300; hour++) {
            x.hour();
        }
        DUE.is("300", x.count(3), 300);
        DUE.is("16 can be undone", x.count(9), 16);
        x.undo();
        DUE.is("299", x.count(3), 299);
    }

    private static void hourBits() {
        DUE.about("hour(): HOUR: who falls through by it, as bits.");
        for (int awake = 0; awake < 16; awake++) {
            StringBuilder text = new StringBuilder("knot a plain holds 1; knot b slip holds 0; string a b; lulls 0;");
            for (int person = 0; person < 4; person++) {
                text.append("person ").append((char) ('p' + person)).append(" will ").append(awake >> person & 1).append(" at a;");
            }
            HammockNet x = Due.net(text.toString());
            DUE.is("who falls", x.hour(), awake);
            DUE.is("who lies still", x.count(4), 15 - awake);
            DUE.is("again", x.hour(), 0);
        }
    }

    private static void rouseWhoLies() {
        DUE.about("ROUSE: who lies is UP.");
        HammockNet x = Due.net(NET);
        DUE.is("one awake, at the first", x.rouse(0), 0);
        DUE.is("one asleep", x.rouse(1), 1);
        DUE.is("is up", x.person(1, 3), 0);
        DUE.is("with the will that was", x.person(1, 0), 0);
        DUE.is("no shift", x.person(0, 2), 0);
        x = Due.net(Due.knots(8, "plain", 1) + "person p will 1 at h;");
        DUE.is("at the last", x.rouse(0), 7);
    }

    private static void rouseOthers() {
        DUE.about("rouse(int person): .. NONE: others, UP");
        HammockNet x = Due.net(NET);
        x.rouse(0);
        String before = Due.stateOf(x);
        for (int person : NO_PERSON) {
            DUE.is("rouse(" + person + ")", x.rouse(person), -1);
        }
        DUE.is("rouse of one up", x.rouse(0), -1);
        DUE.stays("refused rouses", x, before);
        DUE.is("rouse of no net", new HammockNet().rouse(0), -1);
    }

    private static void lieWhoIsUp() {
        DUE.about("LIE: who is UP lies at a KNOT, as their will is (asleep, if that is 0).");
        HammockNet x = Due.net(NET);
        x.rouse(0);
        x.rouse(1);
        DUE.is("p lies", x.lie(0, 2), true);
        DUE.is("awake", x.person(0, 3), 2);
        DUE.is("the will stays", x.person(0, 0), 8);
        DUE.is("no shift", x.person(0, 2), 0);
        DUE.is("q lies", x.lie(1, 2), true);
        DUE.is("asleep, at a firm one too", x.person(1, 3), 1);
        DUE.is("with 0", x.person(1, 0), 0);
        HammockNet y = Due.net("knot a plain holds 1; knot b slip holds 0; string a b; person p will 40 at a; lulls 0;");
        y.shift(0, 1);
        DUE.is("fallen", y.person(0, 3), 0);
        DUE.is("lies at that slip", y.lie(0, 1), true);
        DUE.is("and stays there", y.person(0, 1), 1);
        DUE.is("with all will", y.person(0, 0), 40);
    }

    private static void lieOthers() {
        DUE.about("lie(int person, int knot): .. false: others, they lie");
        HammockNet x = Due.net(NET);
        x.rouse(0);
        String before = Due.stateOf(x);
        for (int person : NO_PERSON) {
            DUE.is("lie(" + person + ", 0)", x.lie(person, 0), false);
        }
        for (int knot : NO_KNOT) {
            DUE.is("lie(0, " + knot + ")", x.lie(0, knot), false);
        }
        DUE.is("one asleep", x.lie(1, 0), false);
        DUE.is("one awake", x.lie(2, 0), false);
        DUE.is("where they lie", x.lie(2, 1), false);
        DUE.stays("refused lies", x, before);
        DUE.is("lie of no net", new HammockNet().lie(0, 0), false);
        DUE.is("of nobody", Due.net("knot a plain holds 1;").lie(0, 0), false);
    }

    private static void tieBothWays() {
        DUE.about("TIE: if a string leads from the first KNOT to the second one it is there no more, else it is.");
        HammockNet x = Due.net(NET);
        DUE.is("off", x.tie(0, 1), 0);
        DUE.is("the other way stays", x.knot(1, 2), 1);
        DUE.is("strings", x.count(1), 1);
        DUE.is("on", x.tie(0, 1), 1);
        DUE.is("a new one", x.tie(0, 2), 1);
        DUE.is("from a", x.knot(0, 2), 6);
        DUE.is("to c, not from it", x.knot(2, 2), 0);
        HammockNet y = Due.net(Due.knots(8, "plain", 1));
        int there = 0;
        for (int i = 0; i < 64; i++) {
            if (i / 8 != i % 8) {
                there += y.tie(i / 8, i % 8);
            }
        }
        DUE.is("more than 16 by tying", there, 56);
        DUE.is("from h", y.knot(7, 2), 127);
        DUE.is("from a", y.knot(0, 2), 254);
        DUE.is("off again", y.tie(7, 0), 0);
        DUE.is("55 then", y.count(1), 55);
    }

    private static void tieOthers() {
        DUE.about("tie(int knot, int other): .. NONE: others, the same");
        HammockNet x = Due.net(NET);
        String before = Due.stateOf(x);
        for (int knot : NO_KNOT) {
            DUE.is("tie(" + knot + ", 0)", x.tie(knot, 0), -1);
            DUE.is("tie(0, " + knot + ")", x.tie(0, knot), -1);
            DUE.is("tie(" + knot + ", " + knot + ")", x.tie(knot, knot), -1);
        }
        for (int knot = 0; knot < 3; knot++) {
            DUE.is("the same", x.tie(knot, knot), -1);
        }
        DUE.stays("refused ties", x, before);
        DUE.is("tie of no net", new HammockNet().tie(0, 1), -1);
    }

    private static void undoEach() {
        DUE.about("UNDO: all of these");
        HammockNet x = Due.net(NET);
        String[] states = new String[6];
        states[0] = Due.stateOf(x);
        x.shift(0, 1);
        states[1] = Due.stateOf(x);
        x.hour();
        states[2] = Due.stateOf(x);
        x.rouse(2);
        states[3] = Due.stateOf(x);
        x.lie(2, 2);
        x.tie(0, 2);
        DUE.is("undo of a tie", x.undo(), true);
        DUE.is("undo of lying", x.undo(), true);
        DUE.stays("undo of lying", x, states[3]);
        DUE.is("undo of rousing", x.undo(), true);
        DUE.stays("undo of rousing", x, states[2]);
        DUE.is("undo of an hour", x.undo(), true);
        DUE.is("undo of a shift", x.undo(), true);
        DUE.is("as at first", Due.stateOf(Due.net(NET)).equals(states[0]), true);
        DUE.is("p at a", x.person(0, 1), 0);
        DUE.is("with 8", x.person(0, 0), 8);
        DUE.is("never shifted", x.person(0, 2), 0);
        DUE.is("hour 0", x.count(3), 0);
        DUE.is("no more", x.undo(), false);
    }

    private static void undoLastSixteen() {
        DUE.about("UNDO: .. the last 16, one by one");
        for (int done = 15; done <= 18; done++) {
            HammockNet x = Due.net("knot a plain holds 1; knot b plain holds 1; person p will 40 at a;");
            for (int i = 0; i < done; i++) {
                x.hour();
                DUE.is("can be undone", x.count(9), Math.min(16, i + 1));
            }
            int most = Math.min(16, done);
            for (int i = 1; i <= most; i++) {
                DUE.is("undo " + i + " of " + done, x.undo(), true);
                DUE.is("the hour", x.count(3), done - i);
                DUE.is("can be still", x.count(9), most - i);
            }
            DUE.is("no more of " + done, x.undo(), false);
            DUE.is("the hour stays", x.count(3), done - most);
        }
        HammockNet x = new HammockNet();
        for (int i = 0; i < 100; i++) {
            x.hour();
            x.hour();
            x.undo();
        }
        DUE.is("the hour", x.count(3), 100);
        // what a 17th has driven out does not come back by an undo
        DUE.is("15 can be", x.count(9), 15);
        for (int i = 0; i < 15; i++) {
            x.undo();
        }
        DUE.is("the hour of 15 ago", x.count(3), 85);
        DUE.is("no 16th", x.undo(), false);
    }

    private static void refusedIsNotUndone() {
        DUE.about("UNDO: all of these");
        HammockNet x = Due.net(NET);
        x.tie(0, 2);
        x.shift(1, 0);
        x.shift(0, 0);
        x.rouse(5);
        x.lie(0, 0);
        x.tie(1, 1);
        x.see(0, 1, 1, true);
        x.mark(0, false);
        x.mark(7, false);
        Due.readRest(x, "hour ;");
        Due.readNet(x, "knot");
        x.held();
        x.seasons(1, 9, 0);
        DUE.is("the tie alone", x.count(9), 1);
        DUE.is("undo", x.undo(), true);
        DUE.is("no string to c", x.knot(0, 2), 2);
        DUE.is("what is seen stays", x.count(8), 1);
        DUE.is("the rest stays", x.count(7), 1);
        DUE.is("the mark stays", x.mark(0, true), true);
        DUE.is("with the string", x.knot(0, 2), 6);
    }

    private static void nothingToUndo() {
        DUE.about("undo(): .. false: nothing can be");
        HammockNet x = new HammockNet();
        DUE.is("undo of nothing", x.undo(), false);
        String before = Due.stateOf(x);
        DUE.is("undo again", x.undo(), false);
        DUE.stays("refused undos", x, before);
        Due.readNet(x, NET);
        DUE.is("undo of a net", x.undo(), false);
        x.hour();
        DUE.is("undo of an hour", x.undo(), true);
        String behind = Due.stateOf(x);
        DUE.is("no more", x.undo(), false);
        DUE.stays("a refused undo", x, behind);
        x.hour();
        Due.readNet(x, NET);
        DUE.is("another net", x.undo(), false);
    }
}
