/** Promises 20 to 30, 37 and 38: what is asked of strings, the fewest shifts and slips, a tug. */
public final class StringsTest {
    private static final Due DUE = new Due("StringsTest");
    private static final int[] NO_KNOT = {-1, 5, 8, Integer.MAX_VALUE, Integer.MIN_VALUE};
    private static final int[] NO_PERSON = {-1, 3, 4, Integer.MAX_VALUE, Integer.MIN_VALUE};
    /** A ring a, b, c; a way from c to d; e alone with a string to a. */
    private static final String NET = "knot a plain holds 1; knot b plain holds 2; knot c plain holds 4;"
            + "knot d plain holds 8; knot e plain holds 16; string a b; string b c; string c a; string c d; string e a;";

    private StringsTest() {
    }

    public static void main(String[] args) {
        reach();
        far();
        walks();
        ringsEndsTrails();
        firms();
        goal();
        doze();
        tiles();
        searchByFacts();
        thirtyShifts();
        held();
        heldOfEqual();
        tug();
        tugLate();
        pull();
        DUE.end();
    }

    /** A chain of strings from a to b to c .. */
    private static String chain(int many) {
        StringBuilder text = new StringBuilder(Due.knots(many, "plain", 1));
        for (int i = 1; i < many; i++) {
            text.append("string ").append((char) ('a' + i - 1)).append(' ').append((char) ('a' + i)).append(';');
        }
        return text.toString();
    }

    private static void reach() {
        HammockNet x = Due.net(NET);
        int[] reached = {15, 15, 15, 0, 15};
        for (int k = 0; k < 5; k++) {
            DUE.is("reach(" + k + ")", x.reach(k), reached[k]);
        }
        for (int k : NO_KNOT) {
            DUE.is("reach(" + k + ")", x.reach(k), -1);
        }
        x.tie(2, 0);
        DUE.is("itself no more", x.reach(0), 14);
        DUE.is("c to d alone", x.reach(2), 8);
        DUE.is("through seven", Due.net(chain(8)).reach(0), 254);
        DUE.is("round eight", tied(chain(8), 7, 0).reach(0), 255);
    }

    private static HammockNet tied(String net, int knot, int other) {
        HammockNet x = Due.net(net);
        x.tie(knot, other);
        return x;
    }

    private static void far() {
        HammockNet x = Due.net(NET);
        int[][] far = {{0, 1, 2, 3, -1}, {2, 0, 1, 2, -1}, {1, 2, 0, 1, -1}, {-1, -1, -1, 0, -1}, {1, 2, 3, 4, 0}};
        for (int k = 0; k < 25; k++) {
            DUE.is("far(" + k / 5 + ", " + k % 5 + ")", x.far(k / 5, k % 5), far[k / 5][k % 5]);
        }
        for (int k : NO_KNOT) {
            DUE.is("far(" + k + ", 0)", x.far(k, 0), -1);
            DUE.is("far(0, " + k + ")", x.far(0, k), -1);
            DUE.is("far(" + k + ", " + k + ")", x.far(k, k), -1);
        }
        DUE.is("seven strings", Due.net(chain(8)).far(0, 7), 7);
        DUE.is("a shorter way", tied(chain(8), 1, 6).far(0, 7), 3);
    }

    private static void walks() {
        HammockNet x = Due.net(NET);
        DUE.is("none: the same", x.walks(0, 0, 0), 1);
        DUE.is("none: another", x.walks(0, 1, 0), 0);
        DUE.is("one", x.walks(0, 1, 1), 1);
        DUE.is("not back", x.walks(1, 0, 1), 0);
        DUE.is("round", x.walks(0, 0, 3), 1);
        DUE.is("round thrice", x.walks(0, 0, 9), 1);
        DUE.is("not in eight", x.walks(0, 0, 8), 0);
        DUE.is("round and off", x.walks(0, 3, 6), 1);
        x.tie(0, 2);
        DUE.is("two ways round", x.walks(0, 0, 5), 2);
        DUE.is("both to d", x.walks(0, 3, 5), 2);
        for (int k : NO_KNOT) {
            DUE.is("walks(" + k + ", 0, 1)", x.walks(k, 0, 1), -1);
            DUE.is("walks(0, " + k + ", 1)", x.walks(0, k, 1), -1);
        }
        for (int strings : new int[] {-1, 10, Integer.MAX_VALUE, Integer.MIN_VALUE}) {
            DUE.is("walks(0, 0, " + strings + ")", x.walks(0, 0, strings), -1);
        }
    }

    private static void ringsEndsTrails() {
        HammockNet x = Due.net(NET);
        DUE.is("rings", x.rings(), 7);
        DUE.is("ends", x.ends(), 8);
        DUE.is("trails", x.trails(), 16);
        x.tie(3, 4);
        DUE.is("rings of all", x.rings(), 31);
        DUE.is("no ends", x.ends(), 0);
        DUE.is("no trails", x.trails(), 0);
        x = Due.net("knot a plain holds 1; knot b plain holds 1;");
        DUE.is("rings without strings", x.rings(), 0);
        DUE.is("ends without strings", x.ends(), 3);
        DUE.is("trails without strings", x.trails(), 3);
        x = Due.net(chain(8));
        DUE.is("rings of a chain", x.rings(), 0);
        DUE.is("ends of a chain", x.ends(), 128);
        DUE.is("trails of a chain", x.trails(), 1);
    }

    private static void firms() {
        HammockNet x = Due.net(NET);
        DUE.is("with itself", x.firms(0), 15);
        DUE.is("nothing", x.firms(3), 0);
        DUE.is("without itself", x.firms(4), 15);
        x.tie(2, 0);
        DUE.is("b, c, d", x.firms(0), 14);
        for (int k : NO_KNOT) {
            DUE.is("firms(" + k + ")", x.firms(k), -1);
        }
    }

    /** p of 6 at a: by b, a firm one, to the dent d; or by the slip c, which holds 2, to e. q of 3 at b; r asleep. */
    private static final String MANY_WAYS = "knot a plain holds 5; knot b firm holds 8; knot c slip holds 2;"
            + "knot d dent holds 6; knot e plain holds 1; string a b; string a c; string b d; string d a; string c e;"
            + "person p will 6 at a; person q will 3 at a; person r will 0 at e;";

    private static void goal() {
        HammockNet x = Due.net(MANY_WAYS);
        DUE.is("they lie there", x.goal(0, 0), 0);
        DUE.is("by one", x.goal(0, 1), 1);
        DUE.is("by two", x.goal(0, 3), 2);
        DUE.is("c holds him behind a ring", x.goal(0, 2), 4);
        DUE.is("and e behind that", x.goal(0, 4), 5);
        DUE.is("q, held by the slip", x.goal(1, 2), 1);
        DUE.is("q, by the slip", x.goal(1, 4), 2);
        DUE.is("q at d, asleep", x.goal(1, 3), 2);
        DUE.is("r is asleep", x.goal(2, 4), -1);
        x.rouse(1);
        DUE.is("q is up", x.goal(1, 0), -1);
        for (int k : NO_KNOT) {
            DUE.is("goal(0, " + k + ")", x.goal(0, k), -1);
        }
        for (int p : NO_PERSON) {
            DUE.is("goal(" + p + ", 0)", x.goal(p, 0), -1);
            DUE.is("doze(" + p + ")", x.doze(p), -1);
            DUE.is("tiles(" + p + ")", x.tiles(p), -1);
        }
        x.tie(0, 1);
        DUE.is("without the string", x.goal(0, 1), -1);
        DUE.is("one asleep comes no further", Due.net(chain(8) + "person p will 3 at a;").goal(0, 4), -1);
        DUE.is("asleep there", Due.net(chain(8) + "person p will 3 at a;").goal(0, 3), 3);
    }

    private static void doze() {
        HammockNet x = Due.net(MANY_WAYS);
        // a 6, b 5, d 3, a 2, c 1, e 0
        DUE.is("p", x.doze(0), 5);
        // a 3, b 2, d 0
        DUE.is("q", x.doze(1), 2);
        DUE.is("r is asleep", x.doze(2), -1);
        x.rouse(0);
        DUE.is("p is up", x.doze(0), -1);
        String two = "knot a plain holds 1; knot b plain holds 1; knot c plain holds 1; knot d dent holds 1;"
                + "knot e plain holds 1; knot f plain holds 1; string a b; string a d; string b c; string d c; string c e;"
                + "person p will 4 at a;";
        DUE.is("with the lesser of two wills at c", Due.net(two).doze(0), 3);
        DUE.is("with the greater of two wills at c", Due.net(two + "string e f;").goal(0, 5), 4);
        DUE.is("never at firm ones", Due.net("knot a firm holds 1; knot b firm holds 1; string a b; string b a;"
                + "person p will 5 at a;").doze(0), -1);
    }

    private static void tiles() {
        HammockNet x = Due.net(MANY_WAYS);
        DUE.is("p", x.tiles(0), 1);
        DUE.is("q is held", x.tiles(1), -1);
        DUE.is("r is asleep", x.tiles(2), -1);
        x.rouse(0);
        DUE.is("p is up", x.tiles(0), -1);
        x = Due.net(chain(5) + "knot s slip holds 4; person p will 9 at a;");
        x.tie(4, 5);
        // a 9, b 8, c 7, d 6, e 5, s 4
        DUE.is("just held", x.tiles(0), -1);
        x.tie(3, 5);
        DUE.is("behind four", x.tiles(0), 4);
        x.tie(1, 5);
        DUE.is("behind two", x.tiles(0), 2);
        DUE.is("a slip that is the first", Due.net("knot a slip holds 3; knot b plain holds 3; string b a;"
                + "person p will 9 at b;").tiles(0), 1);
        x.shift(0, 1);
        DUE.is("from b", x.tiles(0), 1);
    }

    /** The law counts the shifts that were and come, but nobody else. */
    private static void searchByFacts() {
        String net = "knot a plain holds 5; knot b plain holds 5; knot c slip holds 9; string a b; string b a; string a c;"
                + "person p will 10 at a; person q will 0 at b; person r will 0 at b;";
        HammockNet x = Due.net(net + "lulls many;");
        DUE.is("by 0, 1, 2, 3, 4", x.doze(0), 5);
        x.shift(0, 1);
        x.shift(0, 0);
        DUE.is("by 2, 3, 4", x.doze(0), 3);
        DUE.is("too late to fall", x.tiles(0), -1);
        DUE.is("others do not lull", Due.net(net + "lulls others;").doze(0), -1);
        DUE.is("what is at c lulls", Due.net(net + "lulls hold * 2;").doze(0), 2);
        DUE.is("by the will", Due.net(net + "lulls (mind < 11) * 3;").doze(0), 4);
    }

    private static void thirtyShifts() {
        String ring = "knot a plain holds 5; knot b plain holds 5; string a b; string b a; person p will ";
        DUE.is("by 30", Due.net(ring + "30 at a;").doze(0), 30);
        DUE.is("by 31", Due.net(ring + "31 at a;").doze(0), -1);
        String late = "knot c slip holds 9; string a c; lulls 0 + 9 * (mind < 40);";
        DUE.is("soon", Due.net(ring + "40 at a;" + late).tiles(0), 1);
        String law = "lulls (many < 29) * 0 + (29 < many + 1) * 9;";
        DUE.is("asleep by the 30th", Due.net(ring + "9 at a;" + law).doze(0), 30);
        DUE.is("asleep by the 31st", Due.net(ring + "9 at a; lulls (30 < many + 1) * 9;").doze(0), -1);
    }

    private static void held() {
        String slips = "knot a plain holds 5; knot b slip holds 3; knot c slip holds 2; knot d slip holds 1;";
        DUE.is("no strings", Due.net(slips + "person p will 9 at a;").held(), 0);
        HammockNet x = Due.net(slips + "string a b; string b c; string c d; string d a; person p will 9 at a;");
        // b 8, c 7, d 6 with all three firm; each lets through else
        DUE.is("all three", x.held(), 14);
        DUE.is("nothing is done", x.knot(1, 0), 2);
        x = Due.net(slips + "string a b; string b c; string c d; string d a; person p will 4 at a;");
        // b 3 held, c 2 held, d 1 held
        DUE.is("none need", x.held(), 0);
        x = Due.net(slips + "string a b; string b c; string c d; string d a; person p will 5 at a; lulls 1 + (many < 1);");
        // b 3, c 2, d 1
        DUE.is("none need by the law", x.held(), 0);
        x = Due.net(slips + "string a b; string b c; string c d; string d a; person p will 4 at a;"
                + "person q will 9 at d;");
        // q: a 8, b 7 falls; firm: c 6 falls; firm: d 5 falls
        DUE.is("q needs all three", x.held(), 14);
        x.rouse(1);
        DUE.is("q is up", x.held(), 0);
        DUE.is("no net", new HammockNet().held(), 0);
    }

    /**
     * p falls through at y, unless y is firm, or unless q lies there and lulls him; q comes so far only if x is firm,
     * else he sleeps at x.
     */
    private static String eitherSlip(String slips) {
        return "knot a plain holds 1; knot b plain holds 1; knot c plain holds 1; knot d plain holds 1;" + slips
                + "string a x; string x y; string b c; string c d; string d y; person p will 20 at b;"
                + "person q will 1 at a; lulls 1 + others * 8;";
    }

    private static void heldOfEqual() {
        HammockNet x = Due.net(eitherSlip("knot x slip holds 9; knot y slip holds 9;"));
        DUE.is("x, the least set", x.held(), 16);
        x.rouse(1);
        DUE.is("y alone", x.held(), 32);
        DUE.is("y, the least set", Due.net(eitherSlip("knot y slip holds 9; knot x slip holds 9;")).held(), 16);
        x = Due.net("knot a plain holds 9; knot b slip holds 0; string a b; string b a; person p will 1 at a;");
        DUE.is("asleep at b", x.held(), 0);
        DUE.is("x is no slip", Due.net(eitherSlip("knot x plain holds 9; knot y slip holds 9;")).held(), 32);
        x = Due.net("knot x plain holds 9;" + eitherSlip("knot y slip holds 9;"));
        DUE.is("x, the first, is no slip", x.held(), 32);
        x = Due.net("knot a slip holds 3; knot b plain holds 3; string b a; person p will 9 at b;");
        DUE.is("a slip that is the first", x.held(), 1);
        x = tied(chain(8).replace("plain", "slip"), 7, 0);
        DUE.is("nobody lies", x.held(), 0);
        x = Due.net(chain(8).replace("plain", "slip") + "string h a; person p will 40 at a;");
        DUE.is("all eight", x.held(), 255);
        x = Due.net("knot a plain holds 9; knot b slip holds 0; string a b; string b a; person p will 2 at a;");
        DUE.is("1 at b", x.held(), 2);
    }

    private static void tug() {
        HammockNet x = Due.net(NET);
        // d has lost; from c one pulls to d
        int[] wins = {2, 0, 1, 0, 2};
        int[] pulls = {-1, 2, 1, 0, -1};
        // b pulls to c alone, a to b alone: a wins behind b has lost
        wins[0] = 1;
        pulls[0] = 3;
        // e pulls to a alone
        wins[4] = 0;
        pulls[4] = 4;
        for (int k = 0; k < 5; k++) {
            DUE.is("tug(" + k + ", 0)", x.tug(k, 0), wins[k]);
            DUE.is("tug(" + k + ", 1)", x.tug(k, 1), pulls[k]);
        }
        for (int k : NO_KNOT) {
            DUE.is("tug(" + k + ", 0)", x.tug(k, 0), -2);
            DUE.is("tug(" + k + ", 1)", x.tug(k, 1), -2);
        }
        for (int what : new int[] {-1, 2, Integer.MAX_VALUE, Integer.MIN_VALUE}) {
            DUE.is("tug(0, " + what + ")", x.tug(0, what), -2);
        }
        x.tie(2, 3);
        DUE.is("a ring never ends", x.tug(0, 0), 2);
        DUE.is("in no pulls", x.tug(0, 1), -1);
        DUE.is("nor a way into it", x.tug(4, 0), 2);
        DUE.is("d has lost still", x.tug(3, 1), 0);
    }

    private static void tugLate() {
        HammockNet x = Due.net(chain(8));
        for (int k = 0; k < 8; k++) {
            DUE.is("chain tug(" + k + ", 0)", x.tug(k, 0), (7 - k) % 2);
            DUE.is("chain tug(" + k + ", 1)", x.tug(k, 1), 7 - k);
        }
        // from d the loser may pull to e, lost in 4, or to g, lost in 2; from c the winner to d or to h
        x.tie(3, 6);
        DUE.is("the loser late", x.tug(3, 1), 4);
        x.tie(2, 7);
        DUE.is("the winner soon", x.tug(2, 1), 1);
        // rather never than to lose: from b to a and back
        x.tie(1, 0);
        DUE.is("b goes back", x.tug(0, 0), 2);
    }

    private static void pull() {
        HammockNet x = Due.net(NET);
        DUE.is("to win", x.pull(2), 3);
        DUE.is("the only one", x.pull(0), 1);
        DUE.is("no string", x.pull(3), -1);
        for (int k : NO_KNOT) {
            DUE.is("pull(" + k + ")", x.pull(k), -1);
        }
        x.tie(2, 3);
        DUE.is("to go on", x.pull(2), 0);
        x = Due.net(chain(8));
        x.tie(3, 6);
        DUE.is("the loser late", x.pull(3), 4);
        x.tie(2, 7);
        DUE.is("the winner soon", x.pull(2), 7);
        x.tie(2, 5);
        DUE.is("the winner soon, of more", x.pull(2), 7);
        x = Due.net(Due.knots(4, "plain", 1) + "string a b; string a c; string a d;");
        DUE.is("of equal ones the first", x.pull(0), 1);
        x.tie(0, 1);
        DUE.is("the first of two", x.pull(0), 2);
        // b and c wins for the other one, d a ring with a
        x = Due.net(Due.knots(5, "plain", 1) + "string a b; string a c; string a d; string d a; string b e; string c e;");
        DUE.is("rather never", x.pull(0), 3);
        DUE.is("it never ends", x.tug(0, 0), 2);
    }
}
