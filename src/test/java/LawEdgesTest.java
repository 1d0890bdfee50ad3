/** The edges of an E: what is read as one, how deep, and what comes of it. */
public final class LawEdgesTest {
    private static final Due DUE = new Due("LawEdgesTest");

    private LawEdgesTest() {
    }

    public static void main(String[] args) {
        without();
        joinsFromTheLeft();
        testsOnce();
        sums();
        products();
        parts();
        deepest();
        deepestAgain();
        facts();
        zeroOrOne();
        notZeroIsSo();
        wraps();
        longest();
        longestAgain();
        behindFaults();
        DUE.end();
    }

    private static void fault(String law, int kind, int place) {
        HammockNet x = new HammockNet();
        DUE.is("net of lulls " + law, Due.readNet(x, "lulls " + law), Due.fault(kind, place));
    }

    private static void fine(String law) {
        DUE.is("net of lulls " + law, Due.readNet(new HammockNet(), "lulls " + law + ";"), 0);
    }

    /** How much a will of 40 is lulled by the shift from a to b, which holds 7; nobody lies at b. */
    private static int lullBy(HammockNet x, String law) {
        int fault = Due.readNet(x, "knot a plain holds 3; knot b plain holds 7; string a b;"
                + "person p will 40 at a; lulls " + law + ";");
        DUE.is("net with lulls " + law, fault, 0);
        return 40 - x.shift(0, 1);
    }

    private static void lulls(String law, int due) {
        DUE.is("lulls " + law, lullBy(new HammockNet(), law), due);
    }

    private static void without() {
        DUE.about("Without lulls: 1.");
        HammockNet x = Due.net("knot a plain holds 3; knot b plain holds 7; string a b; person p will 40 at a;");
        DUE.is("by 1", x.shift(0, 1), 39);
        DUE.is("by 4", lullBy(x, "4"), 4);
        DUE.is("a net without", Due.readNet(x, "knot a plain holds 3; knot b dent holds 7; string a b; person p will 40 at a;"), 0);
        DUE.is("by 1 again, twice at a dent", x.shift(0, 1), 38);
    }

    private static void joinsFromTheLeft() {
        DUE.about("E: TEST { and TEST or or TEST }, from the left");
        lulls("1 or 1 and 0", 0);
        lulls("0 and 0 or 1", 1);
        lulls("1 and 0 or 1 and 0 or 0", 0);
        lulls("1 and 0 or 1 and 0 or 1", 1);
        lulls("1 or 0 and 1 or 0 and 1", 1);
        lulls("1 or (1 and 0)", 1);
        lulls("0 and (0 or 1)", 0);
        lulls("1 < 2 and 2 < 1", 0);
        lulls("1 < 2 or 2 < 1", 1);
        fault("1 and ;", 1, 12);
        fault("or 1 ;", 1, 6);
        fault("1 or and 1 ;", 1, 11);
        fault("1 and", 1, 11);
    }

    private static void testsOnce() {
        DUE.about("TEST: SUM, or SUM < SUM, or SUM = SUM");
        lulls("1 + 1 < 3", 1);
        lulls("3 < 1 + 2", 0);
        lulls("2 * 3 = 1 + 5", 1);
        lulls("2 < 2", 0);
        lulls("2 < 3", 1);
        lulls("3 = 3", 1);
        lulls("3 = 4", 0);
        lulls("(1 < 2) < 3", 1);
        lulls("3 < 2 + (1 < 2)", 0);
        lulls("2 = 2 and 3 = 3", 1);
        fault("1 < 2 < 3 ;", 1, 12);
        fault("1 < 2 = 1 ;", 1, 12);
        fault("1 = 2 < 1 ;", 1, 12);
        fault("1 = 1 = 1 ;", 1, 12);
        fault("1 < 2 * 3 + 4 < 5 ;", 1, 20);
        fault("1 and 1 < 2 < 3 ;", 1, 18);
        fault("(1 < 2 < 3) ;", 1, 13);
        fine("1 < 2 and 2 < 3 or 3 = 4");
        fine("(1 < 2) = (2 < 3)");
        fault("< 1 ;", 1, 6);
        fault("1 < ;", 1, 10);
    }

    private static void sums() {
        DUE.about("SUM: PRODUCT { + or - PRODUCT }");
        lulls("9 - 4 - 3", 2);
        lulls("9 - (4 - 3)", 8);
        lulls("9 - 4 + 3", 8);
        lulls("1 + 2 * 3 - 4", 3);
        lulls("0 - 5 + 9", 4);
        fault("- 5 + 9 ;", 1, 6);
        fault("5 - - 3 ;", 1, 10);
        fault("5 + ;", 1, 10);
    }

    private static void products() {
        DUE.about("PRODUCT: PART { * PART }");
        lulls("2 * 2 * 2", 8);
        lulls("2 * (1 + 1)", 4);
        lulls("0 - 2 * 2 + 9", 5);
        lulls("(0 - 2) * (0 - 3)", 6);
        fault("* 2 ;", 1, 6);
        fault("2 * ;", 1, 10);
        fault("2 * * 2 ;", 1, 10);
    }

    private static void parts() {
        DUE.about("PART: a NUMBER, a fact, not PART, ( E )");
        lulls("7", 7);
        lulls("hold", 7);
        lulls("not 0 * 5", 5);
        lulls("not 2 < 1", 1);
        lulls("not (2 < 1) + 1", 2);
        lulls("not not 5 * 3", 3);
        lulls("3 * not 0", 3);
        lulls("3 - not 1", 3);
        lulls("(1 or 0) * 4", 4);
        lulls("(((5)))", 5);
        fault("( ) ;", 1, 8);
        fault("(1 ;", 1, 9);
        fault("1 ) ;", 1, 8);
        fault("(1 )) ;", 1, 10);
        fault("(1 2) ;", 1, 9);
        fault("1 not 2 ;", 1, 8);
        fault("1 (2) ;", 1, 8);
        fault("not ;", 1, 10);
        fault("not and ;", 1, 10);
        fault("not + 1 ;", 1, 10);
        fault("a ;", 1, 6);
        fault(";", 1, 6);
        fault("", 1, 6);
    }

    private static void deepest() {
        DUE.about("no PART lies within 5 of not and ( ) .. 5 one too many .. not, or a PART, within 5 others");
        for (String part : new String[] {"1", "hold", "mind", "many", "others", "not 1", "(1)"}) {
            fault("((((( " + part + ")))));", 5, 12);
            fault("not not not not not " + part + ";", 5, 26);
            fault("not (not (not " + part + "));", 5, 20);
        }
        fine("((((1))))");
        fine("not not not not hold");
        fine("not (not (mind))");
        fine("(not (not many))");
        fine("not (not (1 + others))");
        lulls("((((7))))", 7);
        lulls("(not (not 9) * 4)", 4);
        fault("((((not 1))));", 5, 14);
        fault("((((1 + not 0))));", 5, 18);
        fault("((((1 + (0)))));", 5, 15);
        fault("(((( not", 1, 14);
        fault("(((((", 1, 11);
        fault("((((((", 5, 11);
        fault("not not not not not not", 5, 26);
        fault("not not not not not", 1, 25);
        fault("not(not(not(", 5, 17);
    }

    private static void deepestAgain() {
        DUE.about("no PART lies within 5 of not and ( )");
        fine("not not not not 1 + not not not not 1");
        fine("not not not not 1 and not not not not 1 or ((((1)))) * ((((2))))");
        fine("((((1)) + ((2)))) + (((not 1 + not 2)))");
        fine("((((1) + (2)) + (3)) + (4)) + (5)");
        fine("not ((not 1 + not 2) + (not 3)) + not ((not 4))");
        fault("not (1) + not (not (not 1)) ;", 5, 30);
        lulls("not not not not 1 + not not not not 1", 2);
        lulls("((((1)) + ((2)))) + (((not 0 + not 2)))", 4);
    }

    private static void facts() {
        DUE.about("Facts: hold (what the KNOT to which one shifts holds), mind (one's will ahead of it), many (how often one has "
                + "shifted ahead of it), others (how many others are awake or asleep at that KNOT)");
        String net = "knot a plain holds 3; knot b plain holds 7; string a b; string b a; person p will 40 at a;"
                + "person q will 0 at b; person r will 9 at b; person s will 0 at a; lulls ";
        HammockNet x = Due.net(net + "hold;");
        DUE.is("b holds 7, not a's 3", x.shift(0, 1), 33);
        x = Due.net(net + "mind - 37;");
        DUE.is("40 ahead", x.shift(0, 1), 37);
        DUE.is("37 ahead", x.shift(0, 0), 37);
        x = Due.net(net + "5 + many;");
        DUE.is("never ahead", x.shift(0, 1), 35);
        DUE.is("once ahead", x.shift(0, 0), 29);
        x = Due.net(net + "others;");
        DUE.is("one asleep, one awake", x.shift(0, 1), 38);
        DUE.is("one at a, not oneself", x.shift(0, 0), 37);
        x.rouse(1);
        x.rouse(2);
        DUE.is("who is up is not there", x.shift(0, 1), 37);
        x.rouse(3);
        x.lie(3, 0);
        x.lie(2, 0);
        DUE.is("who lies there then is", x.shift(0, 0), 35);
    }

    private static void zeroOrOne() {
        DUE.about("Of not, and, or, < and = comes 1 or 0");
        lulls("(3 and 4) + 2", 3);
        lulls("(3 and 0) + 2", 2);
        lulls("(0 and 4) + 2", 2);
        lulls("(0 and 0) + 2", 2);
        lulls("(3 or 4) + 2", 3);
        lulls("(3 or 0) + 2", 3);
        lulls("(0 or 4) + 2", 3);
        lulls("(0 or 0) + 2", 2);
        lulls("not 3 + 2", 2);
        lulls("not 0 + 2", 3);
        lulls("not not 3 + 2", 3);
        lulls("(3 < 7) + 2", 3);
        lulls("(7 < 3) + 2", 2);
        lulls("(7 = 7) + 2", 3);
        lulls("(7 = 3) + 2", 2);
    }

    private static void notZeroIsSo() {
        DUE.about("what is not 0 is so");
        lulls("(0 - 1 and 1) + 2", 3);
        lulls("(1 and 0 - 1) + 2", 3);
        lulls("(0 or 0 - 1) + 2", 3);
        lulls("(0 - 1 or 0) + 2", 3);
        lulls("not (0 - 1) + 2", 2);
        lulls("not (1 - 1) + 2", 3);
        lulls("(8192 * 8192 * 64 and 1) + 2", 2);
        lulls("(8192 * 8192 * 32 and 1) + 2", 3);
    }

    private static void wraps() {
        DUE.about("ints wrap");
        lulls("8192 * 8192 * 32 < 0", 1);
        lulls("0 < 8192 * 8192 * 32 - 1", 1);
        lulls("8192 * 8192 * 32 - 1 + 1 < 0", 1);
        lulls("8192 * 8192 * 32 + 8192 * 8192 * 32 + 5", 5);
        lulls("0 - 8192 * 8192 * 32 < 0", 1);
        lulls("8192 * 8192 * 64 + 6", 6);
        lulls("(8192 * 8 + 1) * (8192 * 8 + 1) - 8192 * 16", 1);
        lulls("46 * 1000 * 46 * 1000 < 0", 0);
        lulls("47 * 1000 * 47 * 1000 < 0", 1);
        lulls("8192 * 8192 * 32 = 0 - 8192 * 8192 * 32", 1);
    }

    private static String joined(String part, String join, int times) {
        StringBuilder text = new StringBuilder(part);
        for (int i = 1; i < times; i++) {
            text.append(join).append(part);
        }
        return text.toString();
    }

    private static void longest() {
        DUE.about("The TAPE has at most 1,000 signs");
        String law = joined("1", "+", 496) + " -";
        fault(law, 1, 999);
        HammockNet x = new HammockNet();
        DUE.is("1000 signs", Due.feed(x, "lulls " + joined("1", "+", 497) + ";"), 1000);
        DUE.is("are a net", x.net(), 0);
        DUE.is("more than 1000", Due.readNet(x, "lulls " + joined("1", "+", 498) + ";"), Due.fault(1, 1000));
        lulls(joined("1", "+", 440) + "-433", 7);
        lulls(joined("9", "-", 400) + "+3590", 8);
        lulls(joined("not 1", " or ", 90) + " or 1", 1);
        lulls(joined("1", "*", 440) + "*7", 7);
    }

    private static void longestAgain() {
        DUE.about("Without a FAULT a NET is the NET from then on");
        HammockNet x = new HammockNet();
        for (int i = 0; i < 4; i++) {
            String law = joined("1", "+", 430);
            DUE.is("a long law", lullBy(x, law + "-" + (430 - i)), i);
            DUE.is("a long law with a fault", Due.readNet(x, "lulls " + joined("2", "*", 497) + "*"), Due.fault(1, 1000));
            DUE.is("a short law", lullBy(x, "2 + " + i), 2 + i);
            Due.readNet(x, "knot a plain holds 3; knot b plain holds 7; string a b; person p will 40 at a;");
            DUE.is("no law", x.shift(0, 1), 39);
        }
    }

    private static void behindFaults() {
        DUE.about("net(): .. or its FAULT (all stays then)");
        String[] faulty = {"1 < 2 < 3 ;", "1 = (2 = (3", "not not not not not 1 ;", "1 + 2 *", "(((( 1 + 2 ;", "1 or 2 and",
            "1 < 2 and 3 < 4 + not", "((((((", "1 )"};
        HammockNet x = new HammockNet();
        for (String each : faulty) {
            DUE.is("a faulty law " + each, Due.readNet(x, "lulls " + each) != 0, true);
            DUE.is("behind " + each, lullBy(x, "1 < 2"), 1);
            DUE.is("a faulty law " + each, Due.readNet(x, "lulls " + each) != 0, true);
            DUE.is("behind " + each, lullBy(x, "2 * (1 + 2) - not 0"), 5);
            DUE.is("a faulty law " + each, Due.readNet(x, "lulls " + each) != 0, true);
            DUE.is("behind " + each, lullBy(x, "((((3)))) + not not not not 1"), 4);
        }
    }
}
