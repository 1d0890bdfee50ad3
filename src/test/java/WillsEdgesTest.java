import java.util.NoSuchElementException;

/** The edges of promises 39 to 44: whose will it was, odds, a lull at rest, seasons. */
public final class WillsEdgesTest {
    private static final Due DUE = new Due("WillsEdgesTest");
    private static final int[] NO_PERSON = {-1, -2, 4, 5, 31, 32, 33, Integer.MAX_VALUE, Integer.MIN_VALUE};
    private static final int[] NO_KNOT = {-1, -2, 2, 7, 8, 31, 32, 33, Integer.MAX_VALUE, Integer.MIN_VALUE};
    private static final String RING = "knot a plain holds 5; knot b plain holds 5; string a b; string b a;";

    private WillsEdgesTest() {
    }

    public static void main(String[] args) {
        seeHours();
        seeOthers();
        eightAtMost();
        beginsAnew();
        nothingSeen();
        leastAndGreatest();
        willsOthers();
        willsNone();
        behindThirty();
        lyingNowNeverShifted();
        noOthersThere();
        upLiesNowhere();
        stringsWhenAsked();
        askEdges();
        askThirty();
        askNone();
        askUp();
        askOfAll();
        chanceEdges();
        chanceHours();
        chanceOthers();
        chanceTheLeast();
        lullEdges();
        lullIndex();
        lullOthers();
        seasonsEdges();
        seasonsOthers();
        seasonsOfNobody();
        drawsByHand();
        drawsBelowOne();
        seasonsFalls();
        asAhead();
        DUE.end();
    }

    private static void seeHours() {
        DUE.about("SEEN: .. at a KNOT behind so many (0 to 30) of them, or does not");
        HammockNet x = Due.net(RING);
        for (int hours : new int[] {-1, -30, 31, 32, 60, Integer.MAX_VALUE, Integer.MIN_VALUE}) {
            DUE.is("see(0, 0, " + hours + ", true)", x.see(0, 0, hours, true), false);
            DUE.is("see(0, 0, " + hours + ", false)", x.see(0, 0, hours, false), false);
        }
        DUE.is("none is seen", x.count(8), 0);
        DUE.is("0", x.see(0, 0, 0, true), true);
        DUE.is("1", x.see(0, 1, 1, true), true);
        DUE.is("29", x.see(0, 1, 29, false), true);
        DUE.is("30", x.see(0, 0, 30, true), true);
        DUE.is("four are seen", x.count(8), 4);
    }

    private static void seeOthers() {
        DUE.about("see(int from, int knot, int hours, boolean there): .. false: others");
        HammockNet x = Due.net(RING);
        x.see(0, 0, 0, true);
        x.see(0, 1, 0, false);
        String before = Due.stateOf(x);
        for (int knot : NO_KNOT) {
            DUE.is("see(" + knot + ", 0, 0, true)", x.see(knot, 0, 0, true), false);
            DUE.is("see(0, " + knot + ", 0, true)", x.see(0, knot, 0, true), false);
        }
        DUE.is("from another one, at none", x.see(1, 2, 0, true), false);
        DUE.is("from another one, too late", x.see(1, 1, 31, true), false);
        DUE.stays("refused sights", x, before);
        DUE.is("see of no net", new HammockNet().see(0, 0, 0, true), false);
        HammockNet y = Due.net(Due.knots(8, "plain", 1));
        DUE.is("from the last at the last", y.see(7, 7, 30, true), true);
        DUE.is("behind the last", y.see(7, 8, 30, true), false);
    }

    private static void eightAtMost() {
        DUE.about("8 at most .. false: others, 8 there are from that");
        HammockNet x = Due.net(RING);
        for (int i = 1; i <= 8; i++) {
            DUE.is("sight " + i, x.see(0, 1, 1, true), true);
            DUE.is("seen", x.count(8), i);
        }
        String before = Due.stateOf(x);
        DUE.is("a ninth", x.see(0, 0, 1, true), false);
        DUE.is("a ninth, alike", x.see(0, 1, 1, true), false);
        DUE.stays("a ninth", x, before);
        DUE.is("from another one", x.see(1, 0, 1, true), true);
        DUE.is("one is seen", x.count(8), 1);
        HammockNet y = Due.net(RING);
        for (int i = 0; i < 7; i++) {
            y.see(0, 0, 0, true);
        }
        DUE.is("all", y.wills(0), 40);
        y.see(0, 0, 1, true);
        DUE.is("the eighth counts", y.wills(0), 0);
    }

    private static void beginsAnew() {
        DUE.about("all from one told KNOT (with another one it begins anew ..)");
        HammockNet x = Due.net(RING);
        x.see(0, 0, 1, true);
        x.see(0, 0, 1, true);
        DUE.is("none can be", x.wills(0), 0);
        x.see(1, 1, 0, true);
        DUE.is("one is seen", x.count(8), 1);
        DUE.is("all can be", x.wills(0), 40);
        x.see(0, 1, 1, true);
        DUE.is("one again", x.count(8), 1);
        DUE.is("all again", x.wills(0), 40);
        x.see(0, 1, 1, false);
        DUE.is("two from there", x.count(8), 2);
        DUE.is("none again", x.wills(0), 0);
    }

    private static void nothingSeen() {
        DUE.about("WILLS, what 0: how many (40 if nothing is SEEN)");
        for (HammockNet x : new HammockNet[] {new HammockNet(), Due.net(RING), Due.net("knot a slip holds 0;")}) {
            DUE.is("wills(0)", x.wills(0), 40);
            DUE.is("wills(1)", x.wills(1), 1);
            DUE.is("wills(2)", x.wills(2), 40);
            DUE.is("ask()", x.ask(), -1);
        }
    }

    private static void check(HammockNet x, int many, int least, int greatest) {
        DUE.is("wills(0)", x.wills(0), many);
        DUE.is("wills(1)", x.wills(1), least);
        DUE.is("wills(2)", x.wills(2), greatest);
    }

    private static void leastAndGreatest() {
        DUE.about("an unknown PERSON of an unknown will (1 to 40)");
        String chain = Due.knots(3, "plain", 1) + Due.pairs("string", "ab", "bc");
        HammockNet x = Due.net(chain);
        x.see(0, 1, 30, true);
        check(x, 1, 1, 1);
        x = Due.net(chain);
        x.see(0, 2, 30, true);
        check(x, 39, 2, 40);
        x = Due.net(RING + "lulls 9 * (mind < 40);");
        x.see(0, 0, 6, true);
        x.see(0, 1, 7, true);
        check(x, 1, 40, 40);
        x = Due.net("knot a plain holds 5; knot b slip holds 20; string a b; lulls 9 * (mind = 40);");
        x.see(0, 1, 1, false);
        check(x, 20, 21, 40);
        x = Due.net("knot a plain holds 5; knot b slip holds 20; string a b; lulls 9;");
        x.see(0, 1, 1, true);
        check(x, 29, 1, 29);
    }

    private static void willsOthers() {
        DUE.about("wills(int what): .. NONE: others");
        HammockNet x = Due.net(RING);
        for (int what : new int[] {-1, -2, 3, 4, 40, Integer.MAX_VALUE, Integer.MIN_VALUE}) {
            DUE.is("wills(" + what + ")", x.wills(what), -1);
        }
        x.see(0, 0, 0, true);
        DUE.is("wills(3) then", x.wills(3), -1);
    }

    private static void willsNone() {
        DUE.about("WILLS .. NONE: others, none (but 0)");
        HammockNet x = Due.net(RING);
        x.see(0, 0, 0, false);
        check(x, 0, -1, -1);
        x = Due.net(RING);
        x.see(0, 1, 3, true);
        x.see(0, 1, 3, false);
        check(x, 0, -1, -1);
    }

    private static void behindThirty() {
        DUE.about("behind so many (0 to 30) of them");
        // w sleeps behind w shifts, at a if that is even
        HammockNet x = Due.net(RING);
        x.see(0, 0, 30, true);
        check(x, 25, 2, 40);
        x = Due.net(RING);
        x.see(0, 0, 30, false);
        check(x, 15, 1, 29);
        x = Due.net(RING);
        x.see(0, 0, 0, true);
        x.see(0, 1, 0, false);
        check(x, 40, 1, 40);
    }

    private static void lyingNowNeverShifted() {
        DUE.about("lying at a told KNOT now, having never shifted");
        HammockNet x = Due.net(RING + "person p will 40 at a; lulls 9 * many;");
        x.shift(0, 1);
        x.shift(0, 0);
        // by 0 to b, by 9 to a, by 9 to b ..: 1 to 9 sleep at a behind 2
        x.see(0, 0, 3, true);
        check(x, 9, 1, 9);
        x.hour();
        x.hour();
        check(x, 9, 1, 9);
    }

    private static void noOthersThere() {
        DUE.about("no others being at any KNOT");
        String four = "person p will 0 at b; person q will 0 at b; person r will 9 at b; person s will 9 at a;";
        HammockNet x = Due.net(RING + four + "lulls 9 * others;");
        // all go on for ever
        x.see(0, 0, 30, true);
        x.see(0, 1, 29, true);
        check(x, 40, 1, 40);
        x = Due.net(RING + four + "lulls 9 * (others = 0);");
        x.see(0, 1, 2, true);
        check(x, 9, 1, 9);
    }

    private static void upLiesNowhere() {
        DUE.about("lies .. at a KNOT behind so many (0 to 30) of them, or does not");
        String fall = "knot a plain holds 5; knot b slip holds 9; string a b;";
        HammockNet x = Due.net(fall);
        x.see(0, 1, 1, false);
        check(x, 30, 11, 40);
        x.see(0, 0, 1, false);
        x.see(0, 0, 30, false);
        x.see(0, 1, 30, false);
        check(x, 30, 11, 40);
        x.see(0, 0, 0, true);
        check(x, 30, 11, 40);
        x.see(0, 0, 2, true);
        check(x, 0, -1, -1);
    }

    private static void stringsWhenAsked() {
        DUE.about("strings as they are when it is asked");
        HammockNet x = Due.net(RING);
        x.see(0, 1, 1, true);
        DUE.is("a string", x.wills(0), 40);
        x.tie(0, 1);
        DUE.is("none", x.wills(0), 0);
        DUE.is("ask", x.ask(), -1);
        x.undo();
        DUE.is("a string again", x.wills(0), 40);
        DUE.is("ask", x.ask(), 30);
    }

    private static void askEdges() {
        DUE.about("ASK: the least number of HOURS (0 to 30) behind which the greatest number of these who lie at one KNOT, or are "
                + "UP, is the least");
        String chain = Due.knots(8, "plain", 1) + Due.pairs("string", "ab", "bc", "cd", "de", "ef", "fg", "gh");
        HammockNet x = Due.net(chain);
        x.see(0, 0, 0, true);
        // 1 at b, 2 at c .. 6 at g; behind 7 the other 34 at h
        DUE.is("the least number", x.ask(), 7);
        x = Due.net(chain);
        x.see(0, 0, 0, true);
        x.see(0, 7, 30, false);
        // 1 to 6: behind 5 each has a knot of its own but 5 and 6, behind 6 all
        DUE.is("six of them", x.ask(), 6);
        x.see(0, 6, 30, false);
        DUE.is("five of them", x.ask(), 5);
        x = Due.net("knot a plain holds 5; knot b slip holds 9; string a b;");
        x.see(0, 0, 0, true);
        DUE.is("10 held, 30 up", x.ask(), 1);
    }

    private static void askThirty() {
        DUE.about("ASK: the least number of HOURS (0 to 30)");
        HammockNet x = Due.net(RING);
        x.see(0, 1, 29, true);
        x.see(0, 0, 28, true);
        check(x, 12, 29, 40);
        // 29 sleeps at b, the others go on
        DUE.is("behind 30", x.ask(), 30);
        x = Due.net(RING);
        x.see(0, 0, 30, true);
        x.see(0, 1, 29, true);
        check(x, 11, 30, 40);
        DUE.is("behind 31", x.ask(), -1);
        x.see(0, 0, 0, true);
        DUE.is("0 parts none", x.ask(), -1);
    }

    private static void askNone() {
        DUE.about("ask(): .. NONE: nothing is SEEN, none parts them .. if that is less than all");
        HammockNet x = Due.net(Due.knots(3, "plain", 1) + Due.pairs("string", "ab", "bc"));
        DUE.is("nothing is seen", x.ask(), -1);
        x.see(0, 1, 30, true);
        DUE.is("one alone", x.ask(), -1);
        x.see(0, 1, 30, false);
        DUE.is("none at all", x.ask(), -1);
        x.see(1, 1, 0, true);
        // from b all go to c
        DUE.is("all at c", x.ask(), -1);
        DUE.is("ask of no net", new HammockNet().ask(), -1);
        x = Due.net("knot a plain holds 1;");
        x.see(0, 0, 0, true);
        DUE.is("all stay", x.ask(), -1);
    }

    private static void askUp() {
        DUE.about("who lie at one KNOT, or are UP");
        // those of more than 9 are up by b, those of 4 to 9 by c
        HammockNet x = Due.net("knot a plain holds 5; knot b slip holds 9; knot c slip holds 3; string a b; string b c; lulls 0;");
        x.see(0, 0, 0, true);
        // behind 1: 9 at b, 31 up; behind 2: 3 at c, 37 up
        DUE.is("behind 1", x.ask(), 1);
        x.see(0, 2, 2, false);
        x.see(0, 1, 1, false);
        DUE.is("all are up alike", x.ask(), -1);
        DUE.is("31 of them", x.wills(0), 31);
    }

    /** Of a and b, each with a way to the slip c: in each hour one goes there by the odds alone. */
    private static HammockNet odd(String more) {
        return Due.net(RING + "knot c slip holds 0; string a c; string b c; person p will 40 at a; " + more + "lulls 0;");
    }

    private static void askOfAll() {
        DUE.about("an unknown PERSON of an unknown will (1 to 40) .. the least number of HOURS");
        // behind 1: 20 at b, 20 up; behind 2: 9 asleep at b, 11 at c, 20 up still, without 40 but 19
        HammockNet x = Due.net("knot a plain holds 5; knot b slip holds 20; knot c plain holds 5; string a b; string b c;"
                + "lulls (mind < 11) * (many = 0) * 9;");
        x.see(0, 0, 0, true);
        DUE.is("40 counts", x.ask(), 1);
        // behind 1: 20 at b, 20 up; behind 2: 20 at c
        x = Due.net("knot a plain holds 5; knot b slip holds 20; knot c plain holds 5; string a b; string b c; lulls 0;");
        x.see(0, 0, 0, true);
        DUE.is("the first of equal ones", x.ask(), 1);
    }

    private static void chanceEdges() {
        DUE.about("CHANCE: in each of so many (1 to 6) HOURS a PERSON, by odds of ten .. in millionths, cut .. by odds (0 to 10)");
        HammockNet x = odd("");
        for (int hours = 1; hours <= 6; hours++) {
            for (int odds = 0; odds <= 10; odds++) {
                int never = 1000000;
                for (int i = 0; i < hours; i++) {
                    never = never / 10 * (10 - odds);
                }
                DUE.is("chance(0, " + hours + ", " + odds + ")", x.chance(0, hours, odds), 1000000 - never);
            }
        }
        DUE.is("chance(0, 6, 1)", x.chance(0, 6, 1), 468559);
        DUE.is("chance(0, 6, 9)", x.chance(0, 6, 9), 999999);
    }

    private static void chanceHours() {
        DUE.about("that they are UP behind these");
        HammockNet x = Due.net(Due.knots(6, "plain", 1) + "knot g slip holds 0; knot h plain holds 0;"
                + Due.pairs("string", "ab", "bc", "cd", "de", "ef", "fg", "fh") + "person p will 40 at a;");
        for (int hours = 1; hours <= 6; hours++) {
            // g and h hold 0 both, so the first is the most and the least
            DUE.is("chance(0, " + hours + ", 3)", x.chance(0, hours, 3), hours < 6 ? 0 : 1000000);
        }
        x.hour();
        DUE.is("in the fifth", x.chance(0, 5, 10), 1000000);
        DUE.is("not in the fourth", x.chance(0, 4, 10), 0);
    }

    private static void chanceOthers() {
        DUE.about("chance(int person, int hours, int odds): CHANCE, by odds (0 to 10); NONE: others, UP");
        HammockNet x = odd("person q will 0 at a; person r will 9 at b; person s will 9 at b;");
        for (int hours : new int[] {-1, 0, 7, 8, Integer.MAX_VALUE, Integer.MIN_VALUE}) {
            DUE.is("chance(0, " + hours + ", 5)", x.chance(0, hours, 5), -1);
        }
        for (int odds : new int[] {-1, -10, 11, 12, Integer.MAX_VALUE, Integer.MIN_VALUE}) {
            DUE.is("chance(0, 1, " + odds + ")", x.chance(0, 1, odds), -1);
        }
        for (int person : NO_PERSON) {
            DUE.is("chance(" + person + ", 1, 5)", x.chance(person, 1, 5), -1);
        }
        DUE.is("asleep", x.chance(1, 6, 10), 0);
        DUE.is("the last", x.chance(3, 1, 10), 1000000);
        x.rouse(3);
        DUE.is("up", x.chance(3, 1, 10), -1);
        x.rouse(1);
        DUE.is("up with 0", x.chance(1, 1, 0), -1);
        DUE.is("chance of no net", new HammockNet().chance(0, 1, 5), -1);
    }

    private static void chanceTheLeast() {
        DUE.about("but to the one of them that holds the least (of equal ones the first)");
        String two = "knot a plain holds 5; knot b plain holds 9; knot c plain holds 2; knot d slip holds 2;"
                + "string a d; string a c; string a b; person p will 40 at a;";
        DUE.is("c, the first, no slip", Due.net(two).chance(0, 1, 10), 0);
        DUE.is("c, the first, a slip", Due.net(two.replace("c plain", "c slip").replace("d slip", "d plain")).chance(0, 1, 10),
                1000000);
        DUE.is("d alone", Due.net(two.replace("string a c;", "")).chance(0, 1, 10), 1000000);
        DUE.is("the only one, the most and the least", Due.net("knot a plain holds 5; knot b slip holds 9; string a b;"
                + "person p will 40 at a;").chance(0, 1, 5), 1000000);
        DUE.is("none: stays", Due.net("knot a plain holds 5; person p will 40 at a;").chance(0, 6, 5), 0);
    }

    private static void lull(int both, int loses, int gains, int... due) {
        HammockNet x = new HammockNet();
        String call = "rests(" + both + ", " + loses + ", " + gains + ", ";
        DUE.is(call + "-1)", x.rests(both, loses, gains, -1), due.length);
        for (int i = 0; i < due.length; i++) {
            DUE.is(call + i + ")", x.rests(both, loses, gains, i), due[i]);
        }
        DUE.noSuchLull(both, loses, gains, due.length);
    }

    private static void lullEdges() {
        DUE.about("both lie: each gets so much (0 to 9); one lies: he loses so much (0 to 9), the other one gets so much (0 to 9)");
        for (int both = 0; both <= 9; both++) {
            for (int gains = 0; gains <= 9; gains++) {
                boolean bothLie = both >= gains;
                boolean oneLies = gains >= both;
                int[] held = bothLie ? new int[] {0, 3} : new int[] {0};
                lull(both, 1, gains, held);
                lull(both, 9, gains, held);
                int[] lost = bothLie && oneLies ? new int[] {0, 1, 2, 3} : bothLie ? new int[] {0, 3} : new int[] {0, 1, 2};
                lull(both, 0, gains, lost);
            }
        }
    }

    private static void lullIndex() {
        DUE.about("what NONE: how many; i: the i-th .. the least first) .. NoSuchElementException: others, none such");
        HammockNet x = new HammockNet();
        DUE.is("how many", x.rests(0, 0, 0, HammockNet.NONE), 4);
        for (int i = 0; i < 4; i++) {
            DUE.is("the i-th", x.rests(0, 0, 0, i), i);
        }
        for (int what : new int[] {-2, -3, 4, 5, Integer.MAX_VALUE, Integer.MIN_VALUE}) {
            DUE.noSuchLull(0, 0, 0, what);
        }
        DUE.noSuchLull(1, 1, 9, 1);
    }

    private static void lullOthers() {
        DUE.about("NoSuchElementException: others");
        for (int wrong : new int[] {-1, -9, 10, 11, Integer.MAX_VALUE, Integer.MIN_VALUE}) {
            for (int what = -1; what < 2; what++) {
                DUE.noSuchLull(wrong, 0, 0, what);
                DUE.noSuchLull(0, wrong, 0, what);
                DUE.noSuchLull(0, 0, wrong, what);
                DUE.noSuchLull(wrong, wrong, wrong, what);
            }
        }
        HammockNet x = Due.net(RING);
        String before = Due.stateOf(x);
        try {
            x.rests(10, 0, 0, -1);
            DUE.is("no exception", true, false);
        } catch (NoSuchElementException e) {
            DUE.stays("an exception", x, before);
        }
        DUE.is("and again", x.rests(9, 9, 9, 1), 3);
    }

    private static void seasonsEdges() {
        DUE.about("SEASONS by a SEED of so many (1 to 99) HOURS .. by a SEED (0 to 9999)");
        String net = RING + "knot c slip holds 0; string a c; person p will 40 at a; person q will 9 at b; person r will 0 at a;"
                + "person s will 25 at c; lulls others;";
        for (int seed : new int[] {0, 1, 4999, 9998, 9999}) {
            for (int hours : new int[] {1, 2, 98, 99}) {
                HammockNet copy = Due.net(net);
                int falls = Due.played(copy, seed, hours);
                HammockNet x = Due.net(net);
                DUE.is("falls by " + seed, x.seasons(seed, hours, 0), falls);
                DUE.is("who lies by " + seed, x.seasons(seed, hours, 1), copy.count(4));
                DUE.is("will by " + seed, x.seasons(seed, hours, 2), copy.count(6));
            }
        }
    }

    private static void seasonsOthers() {
        DUE.about("seasons(int seed, int hours, int what): .. NONE: others");
        HammockNet x = Due.net(RING + "person p will 40 at a;");
        for (int what = 0; what < 3; what++) {
            for (int seed : new int[] {-1, -9999, 10000, 10001, Integer.MAX_VALUE, Integer.MIN_VALUE}) {
                DUE.is("seasons(" + seed + ", 1, " + what + ")", x.seasons(seed, 1, what), -1);
            }
            for (int hours : new int[] {0, -1, 100, 101, Integer.MAX_VALUE, Integer.MIN_VALUE}) {
                DUE.is("seasons(1, " + hours + ", " + what + ")", x.seasons(1, hours, what), -1);
            }
        }
        for (int what : new int[] {-1, -2, 3, 4, Integer.MAX_VALUE, Integer.MIN_VALUE}) {
            DUE.is("seasons(1, 1, " + what + ")", x.seasons(1, 1, what), -1);
        }
    }

    private static void seasonsOfNobody() {
        DUE.about("each, if there are PERSONS: .. then, also without these, the HOUR");
        for (int what = 0; what < 3; what++) {
            DUE.is("of no net", new HammockNet().seasons(0, 99, what), 0);
            DUE.is("of no person", Due.net(RING).seasons(9999, 99, what), 0);
            DUE.is("of one asleep", Due.net("knot a plain holds 1; person p will 0 at a;").seasons(0, 1, what), what == 1 ? 1 : 0);
        }
    }

    private static void drawsByHand() {
        DUE.about("A DRAW below m: g becomes (g * 1103515245 + 12345) modulo 2147483648 (g is the SEED at first); "
                + "it is g / 65536, cut, modulo m.");
        // by 0: 0, 21468, 9988; by 1: 16838, 5758, 10113; by 2: 908, 22817, 10239
        int[] acts = {9988 % 5, 10113 % 5, 10239 % 5};
        DUE.is("two shifts, a stay", acts[0] * 100 + acts[1] * 10 + acts[2], 334);
        String net = "knot a plain holds 1; knot b slip holds 0; knot c plain holds 0; person p will 40 at c; person q will 0 at a;"
                + "string c b; string c a; lulls 0;";
        // p to a by 0: 21468 % 3 is 0; p and b by 1: 5758 % 3 is 1; q by nothing
        DUE.is("p to a", Due.net(net).seasons(0, 1, 0), 0);
        DUE.is("p to b", Due.net(net).seasons(1, 1, 0), 1);
        DUE.is("q lies", Due.net(net).seasons(1, 1, 1), 2);
        DUE.is("4: nothing is done, then the hour", Due.net(net).seasons(2, 1, 1), 3);
    }

    private static void drawsBelowOne() {
        DUE.about("a DRAW below PERSONS, one below KNOTS, one below 5");
        for (int seed = 0; seed < 60; seed++) {
            String one = "knot a plain holds 1; person p will 9 at a;";
            HammockNet copy = Due.net(one);
            Due.played(copy, seed, 1 + seed % 7);
            DUE.is("one at one by " + seed, Due.net(one).seasons(seed, 1 + seed % 7, 1), copy.count(4));
            String ring = RING + "person p will 40 at a; lulls 0;";
            copy = Due.net(ring);
            Due.played(copy, seed, 1 + seed % 7);
            DUE.is("one at two by " + seed, Due.net(ring).seasons(seed, 1 + seed % 7, 1), copy.count(4));
        }
        int up = 0;
        for (int seed = 0; seed < 60; seed++) {
            up += 1 - Due.net("knot a plain holds 1; person p will 9 at a;").seasons(seed, 1, 1);
        }
        DUE.is("some are roused, and some are not", up > 0 && up < 60, true);
    }

    private static void seasonsFalls() {
        DUE.about("how often one fell through by these");
        String all = "knot a plain holds 1; knot b slip holds 0; string a b; lulls 0; person p will 9 at a; person q will 9 at a;"
                + "person r will 9 at a; person s will 9 at a;";
        for (int seed = 0; seed < 50; seed++) {
            HammockNet copy = Due.net(all);
            int falls = Due.played(copy, seed, 40);
            DUE.is("falls by " + seed, Due.net(all).seasons(seed, 40, 0), falls);
            DUE.is("by a shift or by the hour, all four at once", Due.net(all).seasons(seed, 1, 0) >= 3, true);
        }
    }

    private static void asAhead() {
        DUE.about("(all is as ahead then)");
        HammockNet x = odd("person q will 0 at a; person r will 9 at b; person s will 9 at b;");
        x.hour();
        x.see(0, 1, 1, true);
        x.tie(0, 2);
        String before = Due.stateOf(x);
        int first = x.seasons(77, 50, 2);
        x.seasons(78, 99, 1);
        DUE.is("the same again", x.seasons(77, 50, 2), first);
        x.chance(0, 6, 5);
        x.ask();
        DUE.stays("seasons", x, before);
    }
}
