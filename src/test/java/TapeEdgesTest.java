/** The edges of promises 1 to 4 and of section 1 of the Terms: a test for each sentence that names one. */
public final class TapeEdgesTest {
    private static final Due DUE = new Due("TapeEdgesTest");
    private static final String TWO = "knot a plain holds 5 ; knot b slip holds 9 ; ";
    private static final String ONE_LIES = TWO + "person p will 7 at a ; ";

    private TapeEdgesTest() {
    }

    public static void main(String[] args) {
        atFirst();
        thousandSigns();
        thousandAndOne();
        whichSigns();
        orderOfBytes();
        leftOutBetween();
        takenByReading();
        takenWhole();
        asLongAsCanBe();
        blanks();
        words();
        numbers();
        signs();
        DUE.end();
    }

    private static void fault(String text, int kind, int place) {
        HammockNet x = new HammockNet();
        DUE.is("net of " + text, Due.readNet(x, text), Due.fault(kind, place));
    }

    private static void fine(String text) {
        DUE.is("net of " + text, Due.readNet(new HammockNet(), text), 0);
    }

    private static void atFirst() {
        DUE.about("At first: nothing.");
        HammockNet x = new HammockNet();
        String nothing = Due.stateOf(x);
        DUE.is("knots", x.count(0), 0);
        DUE.is("persons", x.count(2), 0);
        DUE.is("lines", x.count(7), 0);
        DUE.is("signs", x.count(10), 0);
        DUE.is("knot(0, 0)", x.knot(0, 0), -1);
        DUE.is("person(0, 0)", x.person(0, 0), -2);
        DUE.is("undo", x.undo(), false);
        for (int mark = 0; mark < 4; mark++) {
            DUE.is("mark " + mark, x.mark(mark, true), false);
        }
        DUE.is("an empty tape is a net", x.net(), 0);
        DUE.is("an empty tape is a rest", x.rest(), 0);
        DUE.stays("reading nothing", x, nothing);
    }

    private static void thousandSigns() {
        DUE.about("The TAPE has at most 1,000 signs, 10 and 32 .. 126");
        String net = "knot a plain holds 13 ;";
        HammockNet x = new HammockNet();
        DUE.is("999 signs", Due.feed(x, " ".repeat(999 - net.length()) + net), 999);
        DUE.is("one more", x.feed(0x2000000000000000L, 0, 0), 1000);
        DUE.is("one too many", x.feed(0x2000000000000000L, 0, 0), 1000);
        DUE.is("a net of 1000 signs", x.net(), 0);
        DUE.is("holds", x.knot(0, 1), 13);
        DUE.is("1000 signs at once", Due.feed(x, "\n".repeat(1000 - net.length()) + net), 1000);
        DUE.is("a net whose last sign is the 1000th", x.net(), 0);
        Due.feed(x, " ".repeat(1001 - net.length()) + net);
        DUE.is("its ; is the 1001st", x.net(), Due.fault(1, 1000));
        DUE.is("1000 blanks", Due.feed(x, " ".repeat(1000)), 1000);
        DUE.is("are a net", x.net(), 0);
        DUE.is("of nothing", x.count(0), 0);
    }

    private static void thousandAndOne() {
        DUE.about("others .., and what is beyond 1,000, are left out: how many there are");
        HammockNet x = new HammockNet();
        Due.feed(x, " ".repeat(990));
        DUE.is("ten of 24 fit", x.feed(0x2020202020202020L, 0x2061622020202020L, 0x2020202020202020L), 1000);
        DUE.is("the tenth is the last", x.rest(), Due.fault(1, 999));
        Due.feed(x, " ".repeat(999));
        DUE.is("what is left out takes no room", x.feed(0x0900ff7f801f0b7eL, -1, 0), 1000);
        DUE.is("the sign behind them fits", x.net(), Due.fault(1, 999));
        DUE.is("nothing fed", x.feed(0, 0, 0), 0);
        DUE.is("24 fed", x.feed(0x2020202020202020L, 0x2020202020202020L, 0x2020202020202020L), 24);
        DUE.is("24 and nothing", x.feed(0, 0, 0), 24);
        DUE.is("24 and one", x.feed(0, 0, 0x20), 25);
    }

    private static void whichSigns() {
        DUE.about("others than 10 and 32 .. 126 .. are left out");
        for (int sign = 0; sign < 256; sign++) {
            HammockNet x = new HammockNet();
            int due = sign == 10 || sign >= 32 && sign <= 126 ? 1 : 0;
            int place = sign % 24;
            long bytes = (long) sign << 56 - 8 * (place % 8);
            int length = x.feed(place < 8 ? bytes : 0, place >= 8 && place < 16 ? bytes : 0, place >= 16 ? bytes : 0);
            DUE.is("feed of the sign " + sign, length, due);
            DUE.is("count(10) of it", x.count(10), due);
        }
    }

    private static void orderOfBytes() {
        DUE.about("the bytes of a, b, c, of each the highest first");
        HammockNet x = new HammockNet();
        // "knot a p", "lain hol", "ds 17 ;"
        x.feed(0x6b6e6f7420612070L, 0x6c61696e20686f6cL, 0x6473203137203b00L);
        DUE.is("net", x.net(), 0);
        DUE.is("holds", x.knot(0, 1), 17);
        // the same, each byte a call of its own
        String text = "knot a dent holds 16;";
        for (int i = 0; i < text.length(); i++) {
            long bytes = (long) text.charAt(i) << 8 * (i % 8);
            x.feed(i % 3 == 0 ? bytes : 0, i % 3 == 1 ? bytes : 0, i % 3 == 2 ? bytes : 0);
        }
        DUE.is("net by bytes", x.net(), 0);
        DUE.is("holds by bytes", x.knot(0, 1), 16);
    }

    private static void leftOutBetween() {
        DUE.about("others than 10 and 32 .. 126 .. are left out");
        HammockNet x = new HammockNet();
        DUE.is("a word round a left out sign", Due.readNet(x, "kn\tot a pla\u00ffin holds 1\u00002;"), 0);
        DUE.is("a number round one", x.knot(0, 1), 12);
        DUE.is("places without it", Due.readNet(x, "\t\t \u0080;"), Due.fault(1, 1));
    }

    private static void takenByReading() {
        DUE.about("what reads it takes it: it is empty then");
        HammockNet x = new HammockNet();
        Due.readNet(x, ONE_LIES);
        DUE.is("by a net", x.count(10), 0);
        DUE.is("a fault from its own begin", Due.readNet(x, "knot"), Due.fault(1, 4));
        DUE.is("by a faulty net", x.count(10), 0);
        DUE.is("a rest behind it", Due.readRest(x, "rouse p;"), 0);
        DUE.is("by a rest", x.count(10), 0);
        DUE.is("a faulty rest", Due.readRest(x, " rouse q;"), Due.fault(2, 7));
        DUE.is("by a faulty rest", x.count(10), 0);
        DUE.is("fed anew", Due.feed(x, "hour"), 4);
        DUE.is("all else leaves it", x.hour(), 0);
        DUE.is("a mark", x.mark(0, false), true);
        DUE.is("gone back to", x.mark(0, true), true);
        DUE.is("signs", x.count(10), 4);
        DUE.is("a net that is a rest", x.net(), Due.fault(1, 0));
    }

    private static void takenWhole() {
        DUE.about("what reads it takes it: it is empty then");
        for (char sign : new char[] {'0', 'a', ' ', ';', '(', '9', 'z'}) {
            HammockNet x = new HammockNet();
            Due.feed(x, String.valueOf(sign).repeat(300));
            x.rest();
            DUE.is("a number at the end, behind many of " + sign, Due.readNet(x, "lulls 1"), Due.fault(1, 7));
            Due.feed(x, String.valueOf(sign).repeat(300));
            x.rest();
            DUE.is("a word at the end", Due.readNet(x, "knot ab"), Due.fault(1, 7));
            Due.feed(x, String.valueOf(sign).repeat(300));
            x.rest();
            DUE.is("a blank at the end", Due.readNet(x, "knot ab "), Due.fault(1, 8));
            Due.feed(x, String.valueOf(sign).repeat(300));
            x.rest();
            DUE.is("a whole net", Due.readNet(x, "knot ab plain holds 1;"), 0);
        }
        for (String last : new String[] {"1", "a", " ", "(", "hold"}) {
            HammockNet x = new HammockNet();
            Due.feed(x, " ".repeat(994 - last.length()) + "lulls " + last);
            DUE.is("1000 signs", x.count(10), 1000);
            boolean wrong = last.equals("a");
            DUE.is("the end behind 1000 signs, the last of " + last, x.net(), Due.fault(1, wrong ? 999 : 1000));
        }
    }

    private static void asLongAsCanBe() {
        DUE.about("TOKENS, each as long as can be");
        fine("knot ab plain holds 1; knot a plain holds 2; knot b plain holds 3; string ab a; string a b;");
        fault("knota plain holds 1;", 1, 0);
        fault("knot a plainholds 1;", 1, 7);
        fault("knot a plain holds1 2;", 1, 20);
        fault("knot hold plain holds 1; lulls holds;", 1, 31);
        fault("lulls 1 and2 orx;", 1, 13);
        HammockNet x = new HammockNet();
        DUE.is("a number of two digits", Due.readNet(x, "knot a plain holds 12;"), 0);
        DUE.is("is one", x.knot(0, 1), 12);
    }

    private static void blanks() {
        DUE.about("blanks (10, 32) between where one likes");
        fine("knot a plain holds5;knot b plain holds0020;string a b;lulls(1+2)*not 3;");
        fine("  \n knot\n\n a\n plain  holds\n5 \n;\n \n");
        fine("\nlulls\n1\n<\n2\n;\n");
        fault("kn ot a plain holds 5;", 1, 0);
        fault("knot a pl\nain holds 5;", 1, 7);
        fault("knot a plain holds 1 2;", 1, 21);
        HammockNet x = Due.net(ONE_LIES);
        DUE.is("a rest without", Due.readRest(x, "hour;rouse p;lie p a;shift p b;tie a b;"), 0);
        DUE.is("a rest with many", Due.readRest(x, "\n\nhour\n;rouse  \n p ;\n"), 0);
        DUE.is("a rest without a blank between words", Due.readRest(x, "rousep;"), Due.fault(1, 0));
        DUE.is("a rest of blanks", Due.readRest(x, " \n "), 0);
        DUE.is("lines", x.count(7), 0);
    }

    private static void words() {
        DUE.about("WORDS (letters a .. z, 8 at most) .. (a longer WORD .., too, at its first sign)");
        fine("knot az plain holds 1; knot zzzzzzzz plain holds 1; string az zzzzzzzz;");
        fine("knot abcdefgh plain holds 1;");
        fault("knot abcdefghi plain holds 1;", 1, 5);
        fault("knot " + "z".repeat(16) + " plain holds 1;", 1, 5);
        fault("knot " + "a".repeat(200) + " plain holds 1;", 1, 5);
        fault("knot abcdefgh plain holds 1; person abcdefgh will", 3, 36);
        fine("knot abcdefgh plain holds 1; knot abcdefgg plain holds 1; knot bbcdefgh plain holds 1;");
        fault("knot a plain holds 1; string a abcdefghi;", 1, 31);
        fault("knot a plain holdsholds 1;", 1, 13);
        fault("abcdefghi", 1, 0);
        fault("lulls abcdefghi;", 1, 6);
        for (char sign : new char[] {'@', 'A', 'Z', '[', '`', '{', '~', '!', '_'}) {
            fault("knot " + sign + " plain holds 1;", 1, 5);
            fault("knot b" + sign + " plain holds 1;", 1, 6);
        }
        // of twice 27 to a power no two words are alike
        fine("knot b plain holds 1; knot aa plain holds 1; knot za plain holds 1; knot aaa plain holds 1;");
    }

    private static void numbers() {
        DUE.about("NUMBERS (1 to 4 digits; a letter may stand right behind) .. (a longer .. NUMBER, too, at its first sign)");
        HammockNet x = new HammockNet();
        for (String number : new String[] {"7", "07", "007", "0007"}) {
            DUE.is("net with " + number, Due.readNet(x, "knot a plain holds " + number + ";"), 0);
            DUE.is("is 7", x.knot(0, 1), 7);
        }
        fault("knot a plain holds 00007;", 1, 19);
        fault("knot a plain holds 4294967303;", 1, 19);
        fault("knot a plain holds " + "0".repeat(100) + ";", 1, 19);
        fault("lulls 10000;", 1, 6);
        fine("lulls 9999;");
        fault("lulls 1 + 12345;", 1, 10);
        fault("knot a plain holds 7/", 1, 20);
        fault("knot a plain holds 7:", 1, 20);
        fault("knot a plain holds /", 1, 19);
        fault("knot a plain holds :", 1, 19);
        fine("knot a plain holds 9;lulls 1and 2or 3;");
        fault("knot a plain holds 9knot", 1, 20);
        fault("knot a9 plain", 1, 6);
        DUE.is("digits of all kinds", Due.readNet(x, "lulls 1023 + 4567 + 8 + 9;"), 0);
    }

    private static void signs() {
        DUE.about("the signs ( ) < = + - * ;  All else .. is none.");
        for (char sign = 33; sign <= 126; sign++) {
            boolean letter = sign >= 'a' && sign <= 'z';
            boolean digit = sign >= '0' && sign <= '9';
            boolean joins = "<=+-*".indexOf(sign) >= 0;
            if (!letter && !digit && sign != ';') {
                fault("lulls 1 " + sign, 1, joins ? 9 : 8);
                fault("" + sign, 1, 0);
            }
        }
        fault("lulls 1 <= 2;", 1, 9);
        fault("lulls 1 == 2;", 1, 9);
        fault("lulls 1 > 2;", 1, 8);
        fine("lulls 1 ;");
        fine("lulls (1) < (2) + (3) - (4) * (5) ;");
        fine("lulls (1) = (2) ;");
    }
}
