/** Promises 1 to 4: a new object, feed, and the faults of a NET and of a REST. */
public final class TapeTest {
    private static final Due DUE = new Due("TapeTest");
    private static final String TWO = "knot kk slip holds 1 ; knot mm dent holds 1 ; ";
    private static final String PP = TWO + "person pp will 1 at kk ; ";

    private TapeTest() {
    }

    public static void main(String[] args) {
        newObject();
        feeding();
        tokens();
        netLines();
        netLimits();
        names();
        law();
        lawValues();
        lawDepth();
        faultsChangeNothing();
        restLines();
        netClearsAll();
        netsOneBehindAnother();
        faultsOneBehindAnother();
        DUE.end();
    }

    private static void newObject() {
        HammockNet x = new HammockNet();
        for (int what = 0; what <= 10; what++) {
            DUE.is("new count(" + what + ")", x.count(what), 0);
        }
        DUE.is("NONE", HammockNet.NONE, -1);
        DUE.is("new net()", x.net(), 0);
        DUE.is("new rest()", x.rest(), 0);
        DUE.is("new undo()", x.undo(), false);
        DUE.is("new stands()", x.stands(), 1);
    }

    private static void feeding() {
        HammockNet x = new HammockNet();
        DUE.is("feed, all left out", x.feed(0, -1, 0x1f7f80090b0d00ffL), 0);
        DUE.is("feed, edges that are kept", x.feed(0x0a207e0000000000L, 0, 0), 3);
        DUE.is("feed, more", x.feed(0x6162636465666768L, 0x6162636465666768L, 0x6162636465666768L), 27);
        DUE.is("net(), ~ is no token", x.net(), Due.fault(1, 2));
        DUE.is("the tape is taken", x.count(10), 0);
        // highest byte first, a before b before c
        x.feed(0x6b6e6f7400000000L, 0x206b206300000000L, 0);
        DUE.is("net(), order of bytes", x.net(), Due.fault(1, 7));
        for (int i = 0; i < 41; i++) {
            x.feed(0x2020202020202020L, 0x2020202020202020L, 0x2020202020202020L);
        }
        DUE.is("feed up to 984", x.count(10), 984);
        DUE.is("feed beyond 1000", x.feed(0x2020202020202020L, 0x2020202020202061L, 0x6262626262626262L), 1000);
        DUE.is("feed when full", x.feed(0x2020202020202020L, 0, 0), 1000);
        DUE.is("net(), the last sign is the first of c's", x.net(), Due.fault(1, 999));
        DUE.is("emptied", x.count(10), 0);
    }

    private static void fault(String text, int kind, int place) {
        HammockNet x = new HammockNet();
        DUE.is("net of " + text, Due.readNet(x, text), Due.fault(kind, place));
        DUE.is("the tape behind " + text, x.count(10), 0);
    }

    private static void fine(String text) {
        DUE.is("net of " + text, Due.readNet(new HammockNet(), text), 0);
    }

    private static void tokens() {
        fine("");
        fine(" \n ");
        fine("knot a plain holds 5;knot b firm holds 0020 ;string a b;");
        fine("\nknot\na\nslip\nholds\n7\n;");
        fine("knot abcdefgh dent holds 1;");
        fault("knot abcdefghi dent holds 1;", 1, 5);
        fault("knot a plain holds 00005 ;", 1, 19);
        fault("knot a plain holds 0021 ;", 4, 19);
        fault("knot a1 plain", 1, 6);
        fault("knot A plain", 1, 5);
        fault("knot a plain holds -1 ;", 1, 19);
        fault("knot a plain holds 1 , ", 1, 21);
        fault("knotknotk", 1, 0);
        fault("; ", 1, 0);
        fault("12 ", 1, 0);
        // a letter may stand right behind a number
        fine("lulls 1and 2or 3;");
        fault("lulls 1 and2x;", 1, 12);
    }

    private static void netLines() {
        fault("knot", 1, 4);
        fault("knot ", 1, 5);
        fault("knot a", 1, 6);
        fault("knot a loop", 1, 7);
        fault("knot a holds", 1, 7);
        fault("knot a plain 5", 1, 13);
        fault("knot a plain hold 5", 1, 13);
        fault("knot a plain holds ;", 1, 19);
        fault("knot a plain holds 5 knot", 1, 21);
        fault("knot a plain holds 21 ;", 4, 19);
        fine("knot a plain holds 20 ;");
        fine("knot a plain holds 0 ;");
        fault("hour ;", 1, 0);
        fault("a", 1, 0);
        fault(TWO + "string", 1, 52);
        fault(TWO + "string kk", 1, 55);
        fault(TWO + "string zz kk ;", 2, 53);
        fault(TWO + "string kk zz ;", 2, 56);
        fault(TWO + "string kk kk ;", 3, 56);
        fault(TWO + "string kk mm", 1, 58);
        fine(TWO + "string kk mm ; string mm kk ;");
        fault(TWO + "string kk mm ; string kk mm ;", 3, 71);
        fault(TWO + "against zz kk ;", 2, 54);
        fault(TWO + "against kk zz ;", 2, 57);
        fault(TWO + "against kk kk ;", 3, 57);
        fine(TWO + "against kk mm ; against mm kk ; string kk mm ;");
        fault(TWO + "against kk mm ; against kk mm ;", 3, 73);
        fault("string kk mm ; " + TWO, 2, 7);
        fault(TWO + "person pp at", 1, 56);
        fault(TWO + "person pp will 41 at kk ;", 4, 61);
        fine(TWO + "person pp will 40 at kk ;");
        fine(TWO + "person pp will 0 at kk ;");
        fault(TWO + "person pp will kk", 1, 61);
        fault(TWO + "person pp will 1 kk", 1, 63);
        fault(TWO + "person pp will 1 at zz ;", 2, 66);
        fault(TWO + "person pp will 1 at pp ;", 2, 66);
        fault(TWO + "person pp will 1 at kk", 1, 68);
        fault(PP + "string pp kk ;", 2, 78);
        fault(PP + "string kk pp ;", 2, 81);
    }

    private static String pairs(String word, int many) {
        StringBuilder text = new StringBuilder();
        int told = 0;
        for (int i = 0; i < 25 && told < many; i++) {
            if (i / 5 != i % 5) {
                text.append(word).append(' ').append((char) ('a' + i / 5)).append(' ').append((char) ('a' + i % 5)).append(';');
                told++;
            }
        }
        return text.toString();
    }

    private static void netLimits() {
        fine(Due.knots(8, "plain", 1));
        fault(Due.knots(9, "plain", 1), 5, Due.knots(8, "plain", 1).length());
        fault(Due.knots(8, "plain", 1) + "knot", 5, Due.knots(8, "plain", 1).length());
        String five = Due.knots(5, "plain", 1);
        fine(five + pairs("string", 16) + pairs("against", 12));
        fault(five + pairs("string", 16) + "string zz", 5, (five + pairs("string", 16)).length());
        fault(five + pairs("against", 12) + "against", 5, (five + pairs("against", 12)).length());
        String four = five + "person p will 1 at a;person q will 1 at a;person r will 1 at a;person s will 1 at a;";
        fine(four);
        fault(four + "person p will 1 at a;", 5, four.length());
    }

    private static void names() {
        for (String word : Due.RESERVED) {
            fault("knot " + word + " plain holds 1;", 1, 5);
        }
        String[] free = {"hold", "mind", "many", "others", "knots", "a", "wil", "z"};
        for (String word : free) {
            fine("knot " + word + " plain holds 1;");
        }
        fault(TWO + "knot kk plain", 3, 51);
        fault(TWO + "person kk will", 3, 53);
        fault(PP + "person pp will", 3, 78);
        fault(PP + "knot pp plain", 3, 76);
        fault(TWO + "knot plain", 1, 51);
    }

    private static void law() {
        fine("lulls 1;");
        fault("lulls", 1, 5);
        fault("lulls ;", 1, 6);
        fault("lulls 1", 1, 7);
        fault("lulls 1 ; lulls 1 ;", 3, 10);
        fault("lulls 1 1 ;", 1, 8);
        fault("lulls 1 + ;", 1, 10);
        fault("lulls + 1 ;", 1, 6);
        fault("lulls (1 ;", 1, 9);
        fault("lulls 1) ;", 1, 7);
        fault("lulls () ;", 1, 7);
        fault("lulls 1 < 2 < 3 ;", 1, 12);
        fault("lulls 1 = 2 < 3 ;", 1, 12);
        fault("lulls 1 + 2 < 3 + 4 = 5 ;", 1, 20);
        fine("lulls 1 < 2 and 3 < 4 or 5 = 6 ;");
        fine("lulls (1 < 2) < 3 ;");
        fine("lulls not 1 < 2 ;");
        fault("lulls 1 not ;", 1, 8);
        fault("lulls not ;", 1, 10);
        fault("lulls will ;", 1, 6);
        fault("lulls x ;", 1, 6);
        fault("lulls holds ;", 1, 6);
        fault("lulls 12345 ;", 1, 6);
        fine("lulls 9999*hold-mind+many*others;");
        fault("lulls 1 and or 2 ;", 1, 12);
        fault("lulls 1 ( 2 ) ;", 1, 8);
    }

    /** How much a will of 40 is lulled at a KNOT that holds 7, two others lying there, behind one shift. */
    private static void lulls(String law, int lull) {
        HammockNet x = Due.net("knot a plain holds 3; knot b plain holds 7; string a b; string b a; "
                + "person p will 40 at b; person q will 0 at b; person r will 5 at b; lulls " + law + ";");
        x.shift(0, 0);
        int ahead = x.person(0, 0);
        DUE.is("lulls " + law, ahead - x.shift(0, 1), lull);
    }

    private static void lawValues() {
        lulls("hold", 7);
        lulls("many", 1);
        lulls("others", 2);
        lulls("mind < 40", 0);
        lulls("mind = 40 - 0 or mind = 39", 1);
        lulls("5", 5);
        lulls("10", 9);
        lulls("0 - 1", 0);
        lulls("1 + 2 * 3", 7);
        lulls("(1 + 2) * 3", 9);
        lulls("9 - 3 - 2", 4);
        lulls("9 - (3 - 2)", 8);
        lulls("2 * 3 - 1", 5);
        lulls("not 0 + 3", 4);
        lulls("not 7 + 3", 3);
        lulls("not not 7", 1);
        lulls("not (1 < 1) * 4", 4);
        lulls("not (not 7) + 2", 3);
        lulls("(0 or 4) * 5", 5);
        lulls("6 - (3 and 4)", 5);
        lulls("not (1 and 0) + (2 or 0)", 2);
        lulls("3 and 4", 1);
        lulls("3 and 0", 0);
        lulls("0 or 0", 0);
        lulls("0 or 8", 1);
        // from the left: (1 or 1) and 0, not 1 or (1 and 0)
        lulls("1 or 1 and 0", 0);
        lulls("0 and 0 or 5", 1);
        lulls("2 < 1 + 2", 1);
        lulls("2 < 2", 0);
        lulls("(3 = 3) * 6", 6);
        lulls("3 = 2 + 1 and 5", 1);
        // 46341 squared wraps below 0, 65536 squared wraps to 0
        lulls("(9999*4 + 6345) * (9999*4 + 6345) < 0", 1);
        lulls("(8192*8) * (8192*8) + 3", 3);
        lulls("((((hold))))", 7);
        lulls("not not not not hold", 1);
        lulls("1 + (2 * (hold - (mind < 100) - many))", 9);
    }

    private static void lawDepth() {
        fine("lulls not not not not 1;");
        fault("lulls not not not not not 1;", 5, 26);
        fault("lulls not not not not not not 1;", 5, 26);
        fault("lulls (((((1)))));", 5, 11);
        fine("lulls ((((1))));");
        fault("lulls ((((not 1))));", 5, 14);
        fault("lulls ((((((", 5, 11);
        fault("lulls (((((;", 1, 11);
        fault("lulls (((((and", 1, 11);
        fine("lulls ((((1)))) + ((((2)))) + not not not not 3;");
        fine("lulls not (not (1 + hold) * (2));");
        fault("lulls not (not (1 + not 1) * (2));", 5, 24);
        fault("lulls not (not (not 1 + (1)));", 5, 20);
        fault("lulls not (not (1 + (1)));", 5, 21);
    }

    private static void faultsChangeNothing() {
        HammockNet x = Due.net(PP + "string kk mm ; string mm kk ;");
        x.shift(0, 1);
        x.mark(2, false);
        x.see(0, 1, 1, true);
        Due.readRest(x, "hour ;");
        DUE.is("a fault", Due.readNet(x, "knot a plain holds 1 ; lulls 4 ; knot"), Due.fault(1, 37));
        DUE.is("knots stay", x.count(0), 2);
        DUE.is("strings stay", x.count(1), 2);
        DUE.is("the will stays", x.person(0, 0), 0);
        DUE.is("lines stay", x.count(7), 1);
        DUE.is("seen stays", x.count(8), 1);
        DUE.is("undo stays", x.count(9), 1);
        DUE.is("the mark stays", x.mark(2, true), true);
        DUE.is("a fault of a rest", Due.readRest(x, "hour ; hour ; hour"), Due.fault(1, 18));
        DUE.is("lines stay behind it", x.count(7), 1);
        DUE.is("the tape is taken", x.count(10), 0);
        DUE.is("lulls is 1 still", x.wills(0), 40);
    }

    private static void restFault(String text, int kind, int place) {
        HammockNet x = Due.net(PP + "string kk mm ;");
        DUE.is("rest of " + text, Due.readRest(x, text), Due.fault(kind, place));
    }

    private static String hours(int many) {
        StringBuilder text = new StringBuilder();
        for (int i = 0; i < many; i++) {
            text.append("hour;");
        }
        return text.toString();
    }

    private static void restLines() {
        HammockNet x = Due.net(PP + "string kk mm ;");
        DUE.is("each line", Due.readRest(x, "hour ; shift pp mm ; rouse pp ; lie pp kk ; tie kk mm ;"), 0);
        DUE.is("five lines", x.count(7), 5);
        DUE.is("40 lines", Due.readRest(x, hours(40)), 0);
        DUE.is("count 40", x.count(7), 40);
        DUE.is("41 lines", Due.readRest(x, hours(41)), Due.fault(5, 200));
        DUE.is("a 41st of another word", Due.readRest(x, hours(40) + "knot"), Due.fault(1, 200));
        DUE.is("count still 40", x.count(7), 40);
        DUE.is("an empty rest", x.rest(), 0);
        DUE.is("count 0", x.count(7), 0);
        DUE.is("hours without a net", Due.readRest(new HammockNet(), "hour ;"), 0);
        restFault("knot a plain holds 1 ;", 1, 0);
        restFault("hour", 1, 4);
        restFault("hour 1", 1, 5);
        restFault("shift", 1, 5);
        restFault("shift hour", 1, 6);
        restFault("shift kk mm ;", 2, 6);
        restFault("shift zz mm ;", 2, 6);
        restFault("shift pp pp ;", 2, 9);
        restFault("shift pp mm", 1, 11);
        restFault("rouse kk ;", 2, 6);
        restFault("rouse pp kk ;", 1, 9);
        restFault("lie zz kk ;", 2, 4);
        restFault("lie pp zz ;", 2, 7);
        restFault("lie pp", 1, 6);
        restFault("tie pp kk ;", 2, 4);
        restFault("tie kk pp ;", 2, 7);
        restFault("tie kk kk ;", 3, 7);
        restFault("tie kk at ;", 1, 7);
        restFault("tie kk mm ; tie kk mm", 1, 21);
    }

    private static void netClearsAll() {
        HammockNet x = Due.net(PP + "string kk mm ; string mm kk ; lulls 0 ; against kk mm ;");
        x.hour();
        x.see(0, 1, 1, true);
        x.mark(0, false);
        Due.readRest(x, "hour ;");
        DUE.is("another net", Due.readNet(x, PP + "string kk mm ;"), 0);
        DUE.is("hour", x.count(3), 0);
        DUE.is("strings", x.count(1), 1);
        DUE.is("lines", x.count(7), 0);
        DUE.is("seen", x.count(8), 0);
        DUE.is("undo", x.undo(), false);
        DUE.is("mark", x.mark(0, true), false);
        DUE.is("shifts", x.person(0, 2), 0);
        DUE.is("place", x.person(0, 1), 0);
        DUE.is("against", x.knot(0, 3), 0);
        DUE.is("lulls is 1 without one", x.shift(0, 1), 0);
    }

    /** What an earlier net told must not be in a later one, however many there have been. */
    private static void netsOneBehindAnother() {
        HammockNet x = new HammockNet();
        String rich = "knot a slip holds 9; knot b dent holds 8; knot c firm holds 7; string a b; string b c;"
                + "against a b; against c a; person p will 9 at a; person q will 8 at b; lulls 3 + 4;";
        for (int i = 0; i < 3; i++) {
            DUE.is("a rich net", Due.readNet(x, rich), 0);
            DUE.is("a rich net again", Due.readNet(x, rich), 0);
            x.shift(0, 1);
            x.hour();
            DUE.is("the will of all", x.count(6), 1);
            DUE.is("a poor net", Due.readNet(x, "knot b plain holds 1; knot a plain holds 2; person q will 2 at a;"), 0);
            DUE.is("two knots", x.count(0), 2);
            DUE.is("no strings", x.count(1), 0);
            DUE.is("one person", x.count(2), 1);
            DUE.is("no hours", x.count(3), 0);
            DUE.is("q at a", x.person(0, 1), 1);
            DUE.is("q never shifted", x.person(0, 2), 0);
            DUE.is("b is against nothing", x.knot(0, 3), 0);
            DUE.is("a is against nothing", x.knot(1, 3), 0);
            x.tie(1, 0);
            DUE.is("lulled by 1", x.shift(0, 0), 1);
        }
    }

    private static void faultsOneBehindAnother() {
        HammockNet x = new HammockNet();
        for (int i = 0; i < 3; i++) {
            DUE.is("brackets left open", Due.readNet(x, "lulls 2 * ((1 + not"), Due.fault(1, 19));
            String cut = PP + "string kk mm ; against kk mm ; lulls 4 ; knot";
            DUE.is("a net cut short", Due.readNet(x, cut), Due.fault(1, cut.length()));
            DUE.is("an end without brackets", Due.readNet(x, "lulls 1 ) ;"), Due.fault(1, 8));
            DUE.is("a net", Due.readNet(x, TWO + "person p will 9 at mm ; lulls not not not not 0 + 2 ;"), 0);
            DUE.is("without strings", x.count(1), 0);
            DUE.is("against nothing", x.knot(0, 3), 0);
            DUE.is("with one person", x.count(2), 1);
            x.tie(1, 0);
            DUE.is("by 2", x.shift(0, 0), 7);
        }
        for (int i = 0; i < 30; i++) {
            DUE.is("much left open", Due.readNet(x, "lulls 1 + (1 + (1 + (1 + (1 +"), Due.fault(1, 29));
        }
        DUE.is("a net", Due.readNet(x, TWO + "person p will 9 at mm ; lulls 2 + 1 ;"), 0);
        x.tie(1, 0);
        DUE.is("by 3", x.shift(0, 0), 6);
    }
}
