/** The edges of promises 20 to 30, 37 and 38: strings, the fewest shifts, the fewest slips, a tug. */
public final class StringsEdgesTest {
    private static final Due DUE = new Due("StringsEdgesTest");
    private static final int[] NO_KNOT = {-1, -2, 8, 9, 31, 32, 33, 64, Integer.MAX_VALUE, Integer.MIN_VALUE};
    private static final int[] NO_PERSON = {-1, -2, 2, 3, 4, 31, 32, 33, Integer.MAX_VALUE, Integer.MIN_VALUE};
    private static final String[] ROUND = {"ab", "bc", "cd", "de", "ef", "fg", "gh", "ha"};
    private static final String RING = "knot a plain holds 5; knot b plain holds 5; string a b; string b a;";

    private StringsEdgesTest() {
    }

    public static void main(String[] args) {
        reachItself();
        reachFar();
        reachOthers();
        farEdges();
        farOthers();
        walksOfNone();
        walksEdges();
        walksMost();
        walksOthers();
        ringsOnly();
        endsOnly();
        trailsOnly();
        ofNoNet();
        firmsOfAll();
        firmsOthers();
        goalWhereTheyLie();
        goalByThirty();
        goalAtTheLast();
        goalAsleepOrAwake();
        goalOthers();
        dozeByThirty();
        dozeOthers();
        tilesByThirty();
        tilesOthers();
        noOthers();
        shiftsGoOn();
        heldNone();
        heldFewest();
        heldLeastSet();
        heldFewestThenLeast();
        heldThenOthers();
        tugLost();
        tugLongest();
        tugNeverEnds();
        tugOthers();
        pullEdges();
        pullOthers();
        DUE.end();
    }

    private static HammockNet chain() {
        HammockNet x = Due.net(Due.knots(8, "plain", 1) + Due.pairs("string", ROUND));
        x.tie(7, 0);
        return x;
    }

    private static HammockNet ring() {
        return Due.net(Due.knots(8, "plain", 1) + Due.pairs("string", ROUND));
    }

    private static HammockNet all() {
        HammockNet x = Due.net(Due.knots(8, "plain", 20));
        for (int i = 0; i < 64; i++) {
            x.tie(i / 8, i % 8);
        }
        return x;
    }

    private static void reachItself() {
        DUE.about("REACH of a KNOT: .. itself only if it is come to again (bits)");
        HammockNet x = Due.net(Due.knots(3, "plain", 1) + Due.pairs("string", "ab", "ba", "bc"));
        DUE.is("a, by b", x.reach(0), 7);
        DUE.is("c, from which none leads", x.reach(2), 0);
        x.tie(1, 0);
        DUE.is("a, not come to again", x.reach(0), 6);
        DUE.is("b", x.reach(1), 4);
        x.tie(0, 1);
        DUE.is("a, without any", x.reach(0), 0);
    }

    private static void reachFar() {
        DUE.about("those to which one comes from it by strings, through however many");
        for (int knot = 0; knot < 8; knot++) {
            DUE.is("in a ring", ring().reach(knot), 255);
            DUE.is("in a chain", chain().reach(knot), 255 & ~((2 << knot) - 1));
            DUE.is("of all", all().reach(knot), 255);
            DUE.is("of eight alone", Due.net(Due.knots(8, "plain", 1)).reach(knot), 0);
        }
    }

    private static void reachOthers() {
        DUE.about("reach(int knot): .. NONE: others");
        HammockNet x = ring();
        for (int knot : NO_KNOT) {
            DUE.is("reach(" + knot + ")", x.reach(knot), -1);
        }
        DUE.is("reach of no net", new HammockNet().reach(0), -1);
        DUE.is("reach behind the last", Due.net(RING).reach(2), -1);
    }

    private static void farEdges() {
        DUE.about("FAR of two KNOTS: by how many strings, at least. .. FAR (0: the same); NONE: others, never");
        for (int knot = 0; knot < 8; knot++) {
            DUE.is("the same in a ring", ring().far(knot, knot), 0);
            DUE.is("the same in a chain", chain().far(knot, knot), 0);
            DUE.is("from a", chain().far(0, knot), knot);
            DUE.is("to a", chain().far(knot, 0), knot == 0 ? 0 : -1);
            DUE.is("round to a", ring().far(knot, 0), (8 - knot) % 8);
            DUE.is("of all", all().far(knot, 7), knot == 7 ? 0 : 1);
        }
        HammockNet x = ring();
        x.tie(0, 6);
        DUE.is("the shorter way", x.far(0, 7), 2);
        DUE.is("no shorter way", x.far(0, 5), 5);
    }

    private static void farOthers() {
        DUE.about("far(int knot, int other): .. NONE: others");
        HammockNet x = ring();
        for (int knot : NO_KNOT) {
            DUE.is("far(" + knot + ", 0)", x.far(knot, 0), -1);
            DUE.is("far(0, " + knot + ")", x.far(0, knot), -1);
            DUE.is("far(" + knot + ", " + knot + ")", x.far(knot, knot), -1);
        }
        DUE.is("far of no net", new HammockNet().far(0, 0), -1);
        DUE.is("far behind the last", Due.net(RING).far(2, 2), -1);
    }

    private static void walksOfNone() {
        DUE.about("WALKS of two KNOTS: .. by just so many (0 to 9) strings");
        HammockNet x = ring();
        for (int knot = 0; knot < 8; knot++) {
            DUE.is("by none to itself", x.walks(knot, knot, 0), 1);
            DUE.is("by none to a", x.walks(knot, 0, 0), knot == 0 ? 1 : 0);
            DUE.is("by one to itself", x.walks(knot, knot, 1), 0);
            DUE.is("by one", x.walks(knot, (knot + 1) % 8, 1), 1);
        }
    }

    private static void walksEdges() {
        DUE.about("by just so many (0 to 9) strings");
        HammockNet x = ring();
        for (int strings = 0; strings <= 9; strings++) {
            for (int knot = 0; knot < 8; knot++) {
                DUE.is("walks(0, " + knot + ", " + strings + ")", x.walks(0, knot, strings), strings % 8 == knot ? 1 : 0);
            }
        }
        for (int strings : new int[] {-1, -9, 10, 11, Integer.MAX_VALUE, Integer.MIN_VALUE}) {
            DUE.is("walks(0, 0, " + strings + ")", x.walks(0, 0, strings), -1);
        }
    }

    private static void walksMost() {
        DUE.about("WALKS of two KNOTS: in how many ways");
        HammockNet x = all();
        int same = 1;
        int other = 0;
        for (int strings = 0; strings <= 9; strings++) {
            DUE.is("to itself by " + strings, x.walks(3, 3, strings), same);
            DUE.is("to another one by " + strings, x.walks(7, 0, strings), other);
            int next = same + 6 * other;
            same = 7 * other;
            other = next;
        }
        DUE.is("to another one by 9", x.walks(0, 7, 9), 5044201);
    }

    private static void walksOthers() {
        DUE.about("walks(int knot, int other, int strings): .. NONE: others");
        HammockNet x = ring();
        for (int knot : NO_KNOT) {
            DUE.is("walks(" + knot + ", 0, 0)", x.walks(knot, 0, 0), -1);
            DUE.is("walks(0, " + knot + ", 0)", x.walks(0, knot, 0), -1);
            DUE.is("walks(" + knot + ", " + knot + ", 0)", x.walks(knot, knot, 0), -1);
        }
        DUE.is("walks of no net", new HammockNet().walks(0, 0, 0), -1);
        DUE.is("walks behind the last", Due.net(RING).walks(2, 2, 0), -1);
    }

    private static void ringsOnly() {
        DUE.about("RINGS: KNOTS that are in their own REACH (bits).");
        DUE.is("of a ring", ring().rings(), 255);
        DUE.is("of a chain", chain().rings(), 0);
        DUE.is("of all", all().rings(), 255);
        HammockNet x = chain();
        x.tie(7, 6);
        DUE.is("g and h", x.rings(), 192);
        x.tie(1, 0);
        DUE.is("a and b too", x.rings(), 195);
        DUE.is("without strings", Due.net(Due.knots(8, "plain", 1)).rings(), 0);
    }

    private static void endsOnly() {
        DUE.about("ENDS: KNOTS from which no string leads (bits).");
        DUE.is("of a ring", ring().ends(), 0);
        DUE.is("of a chain", chain().ends(), 128);
        DUE.is("without strings", Due.net(Due.knots(8, "plain", 1)).ends(), 255);
        HammockNet x = ring();
        x.tie(0, 1);
        DUE.is("a", x.ends(), 1);
        x.tie(0, 2);
        DUE.is("a no more", x.ends(), 0);
    }

    private static void trailsOnly() {
        DUE.about("TRAILS: KNOTS to which no string leads (bits).");
        DUE.is("of a ring", ring().trails(), 0);
        DUE.is("of a chain", chain().trails(), 1);
        DUE.is("without strings", Due.net(Due.knots(8, "plain", 1)).trails(), 255);
        HammockNet x = ring();
        x.tie(6, 7);
        DUE.is("h", x.trails(), 128);
        x.tie(0, 7);
        DUE.is("h no more", x.trails(), 0);
    }

    private static void ofNoNet() {
        DUE.about("At first: nothing.");
        HammockNet x = new HammockNet();
        DUE.is("rings", x.rings(), 0);
        DUE.is("ends", x.ends(), 0);
        DUE.is("trails", x.trails(), 0);
        DUE.is("held", x.held(), 0);
        x = Due.net("knot a slip holds 0;");
        DUE.is("rings of one", x.rings(), 0);
        DUE.is("ends of one", x.ends(), 1);
        DUE.is("trails of one", x.trails(), 1);
        DUE.is("reach of one", x.reach(0), 0);
        DUE.is("far of one", x.far(0, 0), 0);
        DUE.is("walks of one", x.walks(0, 0, 9), 0);
        DUE.is("held of one", x.held(), 0);
        DUE.is("pull of one", x.pull(0), -1);
    }

    private static void firmsOfAll() {
        DUE.about("FIRMS: what all KNOTS in the REACH of one hold, together.");
        DUE.is("all hold 20", all().firms(7), 160);
        DUE.is("a ring, with itself", ring().firms(0), 8);
        DUE.is("a chain, without itself", chain().firms(0), 7);
        DUE.is("the end of a chain", chain().firms(7), 0);
        HammockNet x = Due.net("knot a plain holds 1; knot b firm holds 2; knot c slip holds 4; knot d dent holds 8;"
                + Due.pairs("string", "ab", "bc", "cd"));
        DUE.is("of each kind", x.firms(0), 14);
        x.tie(3, 0);
        DUE.is("itself too", x.firms(0), 15);
    }

    private static void firmsOthers() {
        DUE.about("firms(int knot): .. NONE: others");
        HammockNet x = ring();
        for (int knot : NO_KNOT) {
            DUE.is("firms(" + knot + ")", x.firms(knot), -1);
        }
        DUE.is("firms of no net", new HammockNet().firms(0), -1);
        DUE.is("firms behind the last", Due.net(RING).firms(2), -1);
    }

    private static void goalWhereTheyLie() {
        DUE.about("GOAL of a PERSON .. (0: they do)");
        HammockNet x = Due.net(RING + "person p will 9 at a; person q will 0 at b;");
        DUE.is("at a", x.goal(0, 0), 0);
        DUE.is("at b by one", x.goal(0, 1), 1);
        x.hour();
        DUE.is("at b now", x.goal(0, 1), 0);
        DUE.is("a slip at which one lies", Due.net("knot a slip holds 0; person p will 9 at a;").goal(0, 0), 0);
    }

    /** Round by 1 with 40; from b one comes to c, which holds so much. */
    private static HammockNet slipBehind(int holds, String start) {
        return Due.net(RING + "knot c slip holds " + holds + "; string b c; person p will 40 at " + start + ";");
    }

    private static void goalByThirty() {
        DUE.about("GOAL .. the fewest SHIFTS (30 at most) .. GOAL; NONE: others, not awake, not by 30");
        DUE.is("by 30, with 10", slipBehind(10, "a").goal(0, 2), 30);
        DUE.is("by 29, with 11", slipBehind(11, "b").goal(0, 2), 29);
        DUE.is("by 31, with 9", slipBehind(9, "b").goal(0, 2), -1);
        DUE.is("by 32, with 8", slipBehind(9, "a").goal(0, 2), -1);
        HammockNet x = slipBehind(9, "b");
        x.shift(0, 0);
        DUE.is("by 30 more", x.goal(0, 2), 30);
    }

    private static void goalAtTheLast() {
        DUE.about("GOAL of a PERSON who is awake and a KNOT");
        HammockNet x = Due.net(Due.knots(8, "plain", 1) + Due.pairs("string", ROUND) + "person p will 40 at a;");
        for (int knot = 0; knot < 8; knot++) {
            DUE.is("goal(0, " + knot + ")", x.goal(0, knot), knot);
        }
        x = Due.net(Due.knots(6, "plain", 1) + "knot g slip holds 0; knot h plain holds 1; string a g; string g h; string a b;"
                + "person p will 3 at a;");
        DUE.is("h, behind a fall", x.goal(0, 7), -1);
        DUE.is("g, a fall", x.goal(0, 6), -1);
        DUE.is("onto the tiles", x.tiles(0), 1);
    }

    private static void goalAsleepOrAwake() {
        DUE.about("by which they lie at it, awake or asleep");
        String chain = Due.knots(5, "plain", 1) + Due.pairs("string", "ab", "bc", "cd", "de");
        HammockNet x = Due.net(chain + "person p will 3 at a;");
        DUE.is("awake", x.goal(0, 2), 2);
        DUE.is("asleep", x.goal(0, 3), 3);
        DUE.is("asleep on the way", x.goal(0, 4), -1);
        x = Due.net(chain.replace("knot d plain", "knot d firm") + "person p will 3 at a;");
        DUE.is("a firm one keeps awake", x.goal(0, 4), 4);
    }

    private static void goalOthers() {
        DUE.about("goal(int person, int knot): .. NONE: others, not awake");
        HammockNet x = Due.net(RING + "person p will 9 at a; person q will 0 at b;");
        for (int person : NO_PERSON) {
            DUE.is("goal(" + person + ", 0)", x.goal(person, 0), -1);
        }
        for (int knot : NO_KNOT) {
            DUE.is("goal(0, " + knot + ")", x.goal(0, knot), -1);
        }
        DUE.is("behind the last", x.goal(0, 2), -1);
        DUE.is("asleep there", x.goal(1, 1), -1);
        DUE.is("asleep elsewhere", x.goal(1, 0), -1);
        x.rouse(0);
        DUE.is("up", x.goal(0, 0), -1);
        DUE.is("goal of no net", new HammockNet().goal(0, 0), -1);
    }

    private static void dozeByThirty() {
        DUE.about("(30 at most) .. DOZE: likewise, by which they are asleep. .. DOZE; NONE: others, not awake, not by 30");
        for (int will : new int[] {1, 2, 29, 30}) {
            DUE.is("of " + will, Due.net(RING + "person p will " + will + " at a;").doze(0), will);
        }
        DUE.is("of 31", Due.net(RING + "person p will 31 at a;").doze(0), -1);
        DUE.is("never", Due.net(RING + "person p will 1 at a; lulls 0;").doze(0), -1);
        DUE.is("without a string", Due.net("knot a plain holds 1; person p will 1 at a;").doze(0), -1);
        HammockNet x = Due.net(RING + "person p will 31 at a;");
        x.shift(0, 1);
        DUE.is("of 31 behind one", x.doze(0), 30);
        DUE.is("at a slip of 0", Due.net("knot a plain holds 1; knot b slip holds 0; string a b; person p will 1 at a;").doze(0), 1);
        DUE.is("not by falling", Due.net("knot a plain holds 1; knot b slip holds 0; string a b; person p will 2 at a;").doze(0), -1);
    }

    private static void dozeOthers() {
        DUE.about("doze(int person): .. NONE: others, not awake");
        HammockNet x = Due.net(RING + "person p will 1 at a; person q will 0 at b;");
        for (int person : NO_PERSON) {
            DUE.is("doze(" + person + ")", x.doze(person), -1);
        }
        DUE.is("asleep", x.doze(1), -1);
        x.rouse(0);
        DUE.is("up", x.doze(0), -1);
        DUE.is("doze of no net", new HammockNet().doze(0), -1);
    }

    /** The slip c, behind b, holds 9; p of 10 falls there, if he comes by the shift behind so many or later. */
    private static HammockNet fallBehind(int shifts, String start) {
        return Due.net(RING + "knot c slip holds 9; string b c; person p will 10 at " + start + "; lulls (hold = 9) * (many < "
                + (shifts - 1) + ") * 9;");
    }

    private static void tilesByThirty() {
        DUE.about("(30 at most) .. TILES: by which they fall through. .. TILES; NONE: others, not awake, not by 30");
        DUE.is("by 30", fallBehind(30, "a").tiles(0), 30);
        DUE.is("by 29", fallBehind(29, "b").tiles(0), 29);
        DUE.is("by 31", fallBehind(31, "b").tiles(0), -1);
        DUE.is("by 32", fallBehind(32, "a").tiles(0), -1);
        DUE.is("by 1", fallBehind(1, "b").tiles(0), 1);
        DUE.is("by 2", fallBehind(1, "a").tiles(0), 2);
        DUE.is("by 3", fallBehind(2, "b").tiles(0), 3);
        DUE.is("no slip", Due.net(RING + "person p will 9 at a;").tiles(0), -1);
        DUE.is("none on the slip where one lies", Due.net("knot a slip holds 0; person p will 9 at a;").tiles(0), -1);
    }

    private static void tilesOthers() {
        DUE.about("tiles(int person): .. NONE: others, not awake");
        HammockNet x = Due.net("knot a plain holds 1; knot b slip holds 0; string a b; person p will 9 at a; person q will 0 at a;");
        for (int person : NO_PERSON) {
            DUE.is("tiles(" + person + ")", x.tiles(person), -1);
        }
        DUE.is("awake", x.tiles(0), 1);
        DUE.is("asleep", x.tiles(1), -1);
        x.rouse(0);
        DUE.is("up", x.tiles(0), -1);
        DUE.is("tiles of no net", new HammockNet().tiles(0), -1);
    }

    private static void noOthers() {
        DUE.about("no others being at any KNOT");
        String net = RING + "knot c slip holds 4; string b c; person p will 9 at a; person q will 0 at b; person r will 0 at a;"
                + "person s will 0 at c; lulls ";
        DUE.is("asleep, alone", Due.net(net + "(others = 0) * 9;").doze(0), 1);
        DUE.is("never by others", Due.net(net + "others * 9;").doze(0), -1);
        DUE.is("not held by others", Due.net(net + "others * 9;").tiles(0), 2);
        DUE.is("held alone", Due.net(net + "5 - others;").goal(0, 2), 2);
        HammockNet x = Due.net(net + "(others = 0) * 9;");
        DUE.is("though q lies at b now", x.shift(0, 1), 9);
    }

    private static void shiftsGoOn() {
        DUE.about("many (how often one has shifted ahead of it)");
        HammockNet x = Due.net(RING + "person p will 40 at a; lulls (many < 5) * 0 + (5 < many + 1) * 9;");
        DUE.is("by 5 and 5 more", x.doze(0), 10);
        x.hour();
        x.hour();
        DUE.is("by 3 and 5 more", x.doze(0), 8);
        x.undo();
        DUE.is("by 4 and 5 more", x.doze(0), 9);
    }

    private static void heldNone() {
        DUE.about("held(): HELD, as bits (0: none need).");
        DUE.is("no persons", Due.net(Due.knots(8, "slip", 0) + Due.pairs("string", ROUND)).held(), 0);
        DUE.is("no strings", Due.net(Due.knots(4, "slip", 0) + "person p will 40 at a;").held(), 0);
        DUE.is("asleep", Due.net(Due.knots(8, "slip", 0) + Due.pairs("string", ROUND) + "person p will 0 at a;").held(), 0);
        DUE.is("held", Due.net("knot a plain holds 1; knot b slip holds 8; string a b; person p will 9 at a;").held(), 0);
        DUE.is("one less", Due.net("knot a plain holds 1; knot b slip holds 7; string a b; person p will 9 at a;").held(), 2);
        HammockNet x = Due.net("knot a plain holds 1; knot b slip holds 7; string a b; person p will 9 at a;");
        x.rouse(0);
        DUE.is("up", x.held(), 0);
        x.lie(0, 1);
        DUE.is("lies behind it", x.held(), 0);
        x.undo();
        x.undo();
        x.tie(0, 1);
        DUE.is("no string", x.held(), 0);
    }

    private static void heldFewest() {
        DUE.about("HELD: the fewest slips that must be firm KNOTS so that in 60 HOURS from now on nobody falls through");
        HammockNet x = Due.net(Due.knots(8, "slip", 0) + Due.pairs("string", ROUND) + "person p will 40 at a;");
        DUE.is("all eight", x.held(), 255);
        x = Due.net(Due.knots(8, "slip", 0) + Due.pairs("string", ROUND) + "person p will 40 at h; lulls 9;");
        // a 31, b 22, c 13, d 4, and 0 at e
        DUE.is("as far as sleep", x.held(), 15);
        x = Due.net(Due.knots(8, "slip", 20) + Due.pairs("string", ROUND) + "person p will 23 at a;");
        // b 22, c 21, d 20
        DUE.is("those that hold less", x.held(), 6);
        x = Due.net("knot a slip holds 0; knot b slip holds 0; knot c plain holds 9; knot d firm holds 0; knot e dent holds 0;"
                + Due.pairs("string", "ca", "cb", "ad", "de") + "person p will 9 at c; person q will 9 at c;");
        DUE.is("the way that is gone alone", x.held(), 1);
        x.tie(0, 3);
        x.tie(0, 1);
        DUE.is("the way that is gone now", x.held(), 3);
    }

    private static void heldLeastSet() {
        DUE.about("of equal ones the least set (bits)");
        // q, coming to x, sleeps there, unless x is firm; else he lulls p at y
        String net = "string a x; string x y; string b c; string c d; string d y; person p will 20 at b; person q will 1 at a;"
                + "lulls 1 + others * 8;";
        String four = Due.knots(4, "plain", 1);
        DUE.is("x before y", Due.net(four + "knot x slip holds 9; knot y slip holds 9;" + net).held(), 16);
        DUE.is("y before x", Due.net(four + "knot y slip holds 9; knot x slip holds 9;" + net).held(), 16);
        DUE.is("one rather than two", Due.net("knot y slip holds 9; knot x slip holds 9;" + four + net).held(), 1);
        DUE.is("x no slip", Due.net(four + "knot x plain holds 9; knot y slip holds 9;" + net).held(), 32);
    }

    private static void heldFewestThenLeast() {
        DUE.about("the fewest slips .. of equal ones the least set (bits)");
        // q, whom only two firm ones let come to y, lulls p there
        String net = "string e w; string w x; string x y; string a b; string b c; string c d; string d y; person p will 20 at a;"
                + "person q will 1 at e; lulls 1 + others * 8;";
        String slips = "knot w slip holds 9; knot x slip holds 9; knot y slip holds 9;";
        HammockNet x = Due.net(slips + Due.knots(5, "plain", 1) + net);
        DUE.is("y alone, though w and x are the lesser set", x.held(), 4);
        x.rouse(1);
        DUE.is("y alone, without q", x.held(), 4);
        String firm = slips.replace("w slip", "w firm");
        DUE.is("x, as w is firm", Due.net(firm + Due.knots(5, "plain", 1) + net).held(), 2);
        DUE.is("none, as both are firm", Due.net(firm.replace("x slip", "x firm") + Due.knots(5, "plain", 1) + net).held(), 0);
    }

    private static void heldThenOthers() {
        DUE.about("HELD: the fewest slips that must be firm KNOTS");
        HammockNet x = Due.net(RING + "knot c slip holds 6; string a c; person p will 9 at a; person q will 1 at b; lulls 1;");
        DUE.is("c holds the most", x.held(), 4);
        Due.readRest(x, "shift p c;");
        x.see(0, 2, 1, true);
        DUE.is("p falls", x.falls(0), 1);
        DUE.is("held again", x.held(), 4);
        DUE.is("p is up", x.later(0, 1), -1);
        DUE.is("held again", x.held(), 4);
        DUE.is("falls by the rest", x.judged(1), 0);
        DUE.is("held again", x.held(), 4);
        DUE.is("wills that are held", x.wills(2), 7);
        DUE.is("held again", x.held(), 4);
        DUE.is("up by chance", x.chance(0, 1, 0), 1000000);
        DUE.is("held again", x.held(), 4);
        DUE.is("not asleep", x.sleeps(0), -1);
        DUE.is("held again", x.held(), 4);
        DUE.is("nobody is awake behind", x.still(), 1);
        DUE.is("held again", x.held(), 4);
        DUE.is("onto the tiles", x.tiles(0), 1);
        DUE.is("c is a slip", x.knot(2, 0), 2);
        DUE.is("by an hour", x.hour(), 1);
    }

    private static void tugLost() {
        DUE.about("TUG .. who can't has lost");
        HammockNet x = Due.net(Due.knots(8, "plain", 1));
        for (int knot = 0; knot < 8; knot++) {
            DUE.is("the other one wins", x.tug(knot, 0), 0);
            DUE.is("in none", x.tug(knot, 1), 0);
        }
        x.tie(7, 6);
        DUE.is("the first one wins", x.tug(7, 0), 1);
        DUE.is("in one", x.tug(7, 1), 1);
    }

    private static void tugLongest() {
        DUE.about("in how many pulls, the winner's as few, the loser's as many as they can make them");
        HammockNet x = chain();
        for (int knot = 0; knot < 8; knot++) {
            DUE.is("who", x.tug(knot, 0), (7 - knot) % 2);
            DUE.is("how many", x.tug(knot, 1), 7 - knot);
        }
        // from a, won in 7, the winner may pull to e as well, lost in 3 no, e is won by the other one
        x.tie(0, 4);
        DUE.is("rather long than lost", x.tug(0, 1), 7);
        x.tie(0, 5);
        DUE.is("the winner's few", x.tug(0, 1), 3);
        x.tie(1, 6);
        DUE.is("the loser's many", x.tug(1, 1), 6);
        x.tie(0, 7);
        DUE.is("the winner's fewest", x.tug(0, 1), 1);
    }

    private static void tugNeverEnds() {
        DUE.about("Each pulls so as to win, else so that it never ends, else so as to lose late.");
        HammockNet x = ring();
        for (int knot = 0; knot < 8; knot++) {
            DUE.is("a ring", x.tug(knot, 0), 2);
            DUE.is("in none", x.tug(knot, 1), -1);
        }
        // a and b for ever, but from b to c, from which none leads
        x = Due.net(Due.knots(4, "plain", 1) + Due.pairs("string", "ab", "ba", "bc"));
        DUE.is("b wins", x.tug(1, 0), 1);
        DUE.is("a has lost", x.tug(0, 0), 0);
        DUE.is("in two", x.tug(0, 1), 2);
        x.tie(2, 3);
        // c wins now, so b goes back to a
        DUE.is("b, rather never", x.tug(1, 0), 2);
        DUE.is("a, never", x.tug(0, 0), 2);
        DUE.is("c wins", x.tug(2, 0), 1);
    }

    private static void tugOthers() {
        DUE.about("tug(int knot, int what): .. -2: others");
        HammockNet x = ring();
        for (int knot : NO_KNOT) {
            DUE.is("tug(" + knot + ", 0)", x.tug(knot, 0), -2);
            DUE.is("tug(" + knot + ", 1)", x.tug(knot, 1), -2);
        }
        for (int what : new int[] {-1, -2, 2, 3, Integer.MAX_VALUE, Integer.MIN_VALUE}) {
            DUE.is("tug(0, " + what + ")", x.tug(0, what), -2);
        }
        DUE.is("tug of no net", new HammockNet().tug(0, 0), -2);
        DUE.is("tug behind the last", Due.net(RING).tug(2, 0), -2);
    }

    private static void pullEdges() {
        DUE.about("PULL: the KNOT to which the first one should pull so; of equal ones the first.");
        HammockNet x = Due.net(Due.knots(8, "plain", 1) + Due.pairs("string", "ah", "ag"));
        DUE.is("the first of two that win", x.pull(0), 6);
        x.tie(6, 5);
        DUE.is("the one that wins", x.pull(0), 7);
        x.tie(7, 5);
        DUE.is("the first of two that lose alike", x.pull(0), 6);
        x.tie(0, 7);
        DUE.is("the only one", x.pull(0), 6);
        x = ring();
        DUE.is("on in a ring", x.pull(7), 0);
        x.tie(7, 3);
        DUE.is("the first that never ends", x.pull(7), 0);
        // lost in 1 by b; lost in 3 by c, d, e
        x = Due.net(Due.knots(8, "plain", 1) + Due.pairs("string", "ab", "ac", "bf", "cd", "de", "ef"));
        DUE.is("the loser late", x.pull(0), 2);
        DUE.is("in four", x.tug(0, 1), 4);
        x.tie(0, 6);
        DUE.is("to win rather", x.pull(0), 6);
    }

    private static void pullOthers() {
        DUE.about("pull(int knot): .. NONE: others, there is no string");
        HammockNet x = chain();
        DUE.is("no string", x.pull(7), -1);
        for (int knot : NO_KNOT) {
            DUE.is("pull(" + knot + ")", x.pull(knot), -1);
        }
        DUE.is("pull of no net", new HammockNet().pull(0), -1);
        DUE.is("pull behind the last", Due.net(RING).pull(2), -1);
    }
}
