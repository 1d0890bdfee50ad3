/** The edges of a NET's lines: how many, which names, which numbers; and which of two faults is told. */
public final class NetEdgesTest {
    private static final Due DUE = new Due("NetEdgesTest");
    /** 47 signs. */
    private static final String TWO = "knot aa plain holds 5 ; knot bb slip holds 9 ; ";
    /** 72 signs. */
    private static final String LIES = TWO + "person pp will 7 at aa ; ";
    private static final String[] FREE = {"hold", "mind", "many", "others", "knots", "kno", "strings", "a", "z",
        "wills", "ati", "o", "orr", "an", "no"};
    private static final String[] PAIRS_OF_FIVE = {"ab", "ac", "ad", "ae", "ba", "bc", "bd", "be", "ca", "cb", "cd", "ce",
        "da", "db", "dc", "de", "ea", "eb", "ec", "ed"};
    private static final String FOUR_LIE = "person p will 1 at a;person q will 2 at b;person r will 3 at c;"
            + "person s will 4 at d;";

    private NetEdgesTest() {
    }

    public static void main(String[] args) {
        anyNumber();
        eightKnots();
        kinds();
        holds();
        sixteenStrings();
        stringNames();
        twelveAgainst();
        againstNames();
        fourPersons();
        willOfPerson();
        placeOfPerson();
        lullsOnce();
        reservedNames();
        freeNames();
        noTwoAlike();
        cannotStandThere();
        endIsAToken();
        firstFromTheLeft();
        leastOfAToken();
        aNetFromThenOn();
        allStaysByAFault();
        fullNet();
        DUE.end();
    }

    private static void fault(String text, int kind, int place) {
        HammockNet x = new HammockNet();
        DUE.is("net of " + text, Due.readNet(x, text), Due.fault(kind, place));
        DUE.is("knots behind the fault of " + text, x.count(0), 0);
    }

    private static HammockNet fine(String text) {
        HammockNet x = new HammockNet();
        DUE.is("net of " + text, Due.readNet(x, text), 0);
        return x;
    }

    /** The first so many of the pairs of five KNOTS. */
    private static String pairs(String word, int many) {
        String[] names = new String[many];
        System.arraycopy(PAIRS_OF_FIVE, 0, names, 0, many);
        return Due.pairs(word, names);
    }

    private static void anyNumber() {
        DUE.about("NET: any number of");
        DUE.is("none", fine("").count(0), 0);
        DUE.is("one", fine("knot a plain holds 1;").count(0), 1);
        HammockNet x = fine(Due.knots(8, "plain", 1) + pairs("string", 16) + pairs("against", 12) + FOUR_LIE + "lulls 2;");
        DUE.is("41 lines", x.count(0) + x.count(1) + x.count(2), 28);
        DUE.is("in any order", fine("lulls 1; knot b plain holds 1; person p will 1 at b; knot a dent holds 2;"
                + "against a b; string b a; person q will 2 at a; string a b;").count(1), 2);
    }

    private static void eightKnots() {
        DUE.about("knot: 8 at most, numbered as told .. 5 one too many: the words knot of a ninth");
        String eight = Due.knots(8, "plain", 1);
        HammockNet x = fine(eight);
        DUE.is("eight", x.count(0), 8);
        DUE.is("the eighth", x.knot(7, 1), 1);
        DUE.is("there is no ninth", x.knot(8, 1), -1);
        fault(eight + "knot i plain holds 1;", 5, eight.length());
        fault(eight + "knot", 5, eight.length());
        fault(eight + "knot a plain", 5, eight.length());
        fault(eight + "string a b; knot", 5, eight.length() + 12);
        x = fine("knot c plain holds 3; knot a plain holds 1; knot b plain holds 2;");
        for (int knot = 0; knot < 3; knot++) {
            DUE.is("numbered as told: " + knot, x.knot(knot, 1), knot == 0 ? 3 : knot);
        }
    }

    private static void kinds() {
        DUE.about("KIND: plain, firm, slip, dent");
        String[] kinds = {"plain", "firm", "slip", "dent"};
        for (int kind = 0; kind < 4; kind++) {
            DUE.is(kinds[kind], fine("knot a " + kinds[kind] + " holds 1;").knot(0, 0), kind);
        }
        for (String other : new String[] {"dents", "slips", "fir", "plai", "holds", "1", ";", "not", "or", "and", "hold",
            "mind", "others", "knot", "a"}) {
            fault("knot a " + other + " holds 1;", 1, 7);
        }
    }

    private static void holds() {
        DUE.about("holds 0 to 20 .. 4 a NUMBER that is not as told");
        for (int holds : new int[] {0, 1, 19, 20}) {
            DUE.is("holds", fine("knot a plain holds " + holds + ";").knot(0, 1), holds);
        }
        for (int holds : new int[] {21, 22, 40, 99, 100, 256, 1000, 9999}) {
            fault("knot a plain holds " + holds + ";", 4, 19);
        }
        fault("knot a plain holds -1;", 1, 19);
        fault("knot a plain holds +1;", 1, 19);
        fault("knot a plain holds (1);", 1, 19);
        fault("knot a plain holds one;", 1, 19);
        fault("knot a plain holds 21", 4, 19);
        fault("knot a plain holds 1 2;", 1, 21);
    }

    private static void sixteenStrings() {
        DUE.about("string: 16 at most .. 5 one too many .. string of a seventeenth");
        String five = Due.knots(5, "plain", 1);
        DUE.is("sixteen", fine(five + pairs("string", 16)).count(1), 16);
        String full = five + pairs("string", 16);
        fault(full + "string e b;", 5, full.length());
        fault(full + "string a b;", 5, full.length());
        fault(full + "string", 5, full.length());
        fault(full + "lulls 1; string x", 5, full.length() + 9);
        DUE.is("strings of against do not count", fine(full + pairs("against", 12)).count(1), 16);
    }

    private static void stringNames() {
        DUE.about("from a KNOT told to another one, not the same, each two once that way");
        fault(TWO + "string zz aa ;", 2, 54);
        fault(TWO + "string aa zz ;", 2, 57);
        fault(TWO + "string aa aa ;", 3, 57);
        fault(TWO + "string bb bb ;", 3, 57);
        fault(TWO + "string aa bb ; string aa bb ;", 3, 72);
        fault(TWO + "string bb aa ; string aa bb ; string bb aa ;", 3, 87);
        DUE.is("both ways", fine(TWO + "string aa bb ; string bb aa ;").count(1), 2);
        fault("string aa bb ; " + TWO, 2, 7);
        fault("knot aa plain holds 5 ; string aa bb ; knot bb plain holds 1 ;", 2, 34);
        fault(LIES + "string pp aa ;", 2, 79);
        fault(LIES + "string aa pp ;", 2, 82);
        DUE.is("against is another thing", fine(TWO + "against aa bb ; string aa bb ;").count(1), 1);
    }

    private static void twelveAgainst() {
        DUE.about("against: 12 at most .. 5 one too many .. against of a thirteenth");
        String five = Due.knots(5, "plain", 1);
        HammockNet x = fine(five + pairs("against", 12));
        DUE.is("c is against four", x.knot(2, 3), 27);
        DUE.is("d is against none", x.knot(3, 3), 0);
        String full = five + pairs("against", 12);
        fault(full + "against d a;", 5, full.length());
        fault(full + "against a b;", 5, full.length());
        fault(full + "against", 5, full.length());
        fault(full + "string a b; against", 5, full.length() + 12);
    }

    private static void againstNames() {
        DUE.about("a KNOT told against another one, not the same, each two once that way");
        fault(TWO + "against zz aa ;", 2, 55);
        fault(TWO + "against aa zz ;", 2, 58);
        fault(TWO + "against aa aa ;", 3, 58);
        fault(TWO + "against aa bb ; against aa bb ;", 3, 74);
        HammockNet x = fine(TWO + "against aa bb ; against bb aa ;");
        DUE.is("aa is against bb", x.knot(0, 3), 2);
        DUE.is("bb is against aa", x.knot(1, 3), 1);
        fault("against aa bb ; " + TWO, 2, 8);
        fault(LIES + "against pp aa ;", 2, 80);
        fault(LIES + "against aa pp ;", 2, 83);
        DUE.is("a string is another thing", fine(TWO + "string aa bb ; against aa bb ;").knot(0, 3), 2);
    }

    private static void fourPersons() {
        DUE.about("person: 4 at most, numbered as told .. 5 one too many .. person of a fifth");
        String four = Due.knots(4, "plain", 1) + FOUR_LIE;
        HammockNet x = fine(four);
        DUE.is("four", x.count(2), 4);
        for (int person = 0; person < 4; person++) {
            DUE.is("numbered as told, will of " + person, x.person(person, 0), person + 1);
            DUE.is("numbered as told, place of " + person, x.person(person, 1), person);
        }
        DUE.is("there is no fifth", x.person(4, 0), -2);
        fault(four + "person t will 1 at a;", 5, four.length());
        fault(four + "person p will", 5, four.length());
        fault(four + "person", 5, four.length());
    }

    private static void willOfPerson() {
        DUE.about("will 0 to 40");
        DUE.is("asleep at once", fine(TWO + "person pp will 0 at aa ;").person(0, 3), 1);
        for (int will : new int[] {0, 1, 39, 40}) {
            DUE.is("will", fine(TWO + "person pp will " + will + " at aa ;").person(0, 0), will);
        }
        for (int will : new int[] {41, 42, 400, 9999}) {
            fault(TWO + "person pp will " + will + " at aa ;", 4, 62);
        }
        fault(TWO + "person pp will 00040 at aa ;", 1, 62);
        fault(TWO + "person pp will -1 at aa ;", 1, 62);
        fault(TWO + "person pp will at aa ;", 1, 62);
        fault(TWO + "person pp at aa ;", 1, 57);
    }

    private static void placeOfPerson() {
        DUE.about("at a KNOT told");
        DUE.is("at the slip, lying", fine(TWO + "person pp will 40 at bb ;").person(0, 1), 1);
        fault(TWO + "person pp will 1 at zz ;", 2, 67);
        fault(TWO + "person pp will 1 at pp ;", 2, 67);
        fault(LIES + "person qq will 1 at pp ;", 2, 92);
        fault(TWO + "person pp will 1 at at ;", 1, 67);
        fault(TWO + "person pp will 1 at 0 ;", 1, 67);
        fault("knot aa plain holds 1; person pp will 1 at bb ; knot bb plain holds 1;", 2, 43);
    }

    private static void lullsOnce() {
        DUE.about("lulls: once .. 3 a NAME told already .. lulls a second time");
        fault("lulls 1 ; lulls 2 ;", 3, 10);
        fault("lulls 1 ; lulls", 3, 10);
        fault("lulls 1 ; " + TWO + "lulls x", 3, 57);
        HammockNet x = fine(TWO + "lulls 4 ;");
        DUE.is("once in another net", Due.readNet(x, LIES + "string aa bb ; lulls 3 ;"), 0);
        DUE.is("by that one", x.shift(0, 1), 4);
        DUE.is("and without", Due.readNet(x, LIES + "string aa bb ;"), 0);
        DUE.is("Without lulls: 1.", x.shift(0, 1), 6);
    }

    private static void reservedNames() {
        DUE.about("A NAME is another WORD than knot, holds, .. and, or");
        for (String word : Due.RESERVED) {
            fault("knot " + word + " plain holds 1 ;", 1, 5);
            fault(TWO + "person " + word + " will 1 at aa ;", 1, 54);
            fault(TWO + "person pp will 1 at " + word + " ;", 1, 67);
            fault(TWO + "string " + word + " aa ;", 1, 54);
            fault(TWO + "string aa " + word + " ;", 1, 57);
            fault(TWO + "against " + word + " aa ;", 1, 55);
            fault(TWO + "against aa " + word + " ;", 1, 58);
        }
        for (String other : new String[] {"7", ";", "(", "A", "abcdefghi"}) {
            fault("knot " + other + " plain holds 1 ;", 1, 5);
            fault(TWO + "person " + other + " will 1 at aa ;", 1, 54);
            fault(TWO + "string " + other + " aa ;", 1, 54);
            fault(TWO + "against aa " + other + " ;", 1, 58);
        }
    }

    private static void freeNames() {
        DUE.about("A NAME is another WORD");
        for (String name : FREE) {
            HammockNet x = fine("knot " + name + " dent holds 3 ; knot bb plain holds 1 ; string " + name + " bb ;"
                    + "string bb " + name + "; against " + name + " bb; person pp will 1 at " + name + ";");
            DUE.is("strings of " + name, x.count(1), 2);
            DUE.is("one is at " + name, x.person(0, 1), 0);
            DUE.is("a person " + name, fine(TWO + "person " + name + " will 1 at aa;").count(2), 1);
        }
        HammockNet y = fine("knot hold plain holds 3; knot mind plain holds 6; string hold mind; person many will 9 at hold;"
                + "lulls hold - (many + others);");
        DUE.is("facts are no names", y.shift(0, 1), 3);
    }

    private static void noTwoAlike() {
        DUE.about("no two (KNOTS, PERSONS) are alike .. 3 a NAME told already");
        fault("knot a plain holds 1; knot a plain holds 1;", 3, 27);
        fault(TWO + "knot bb slip", 3, 52);
        fault(TWO + "person aa will", 3, 54);
        fault(LIES + "knot pp plain", 3, 77);
        fault(LIES + "person pp will", 3, 79);
        fault("person aa will", 1, 14);
        HammockNet x = fine(TWO + "knot aaa plain holds 1; knot a plain holds 2; person ab will 1 at a; knot ba firm holds 0;");
        DUE.is("not alike", x.count(0), 5);
        DUE.is("told in another net alone", Due.readNet(x, "knot aa plain holds 1; person bb will 1 at aa;"), 0);
        DUE.is("told in a faulty one alone", Due.readNet(x, "knot cc plain holds 1; knot cc"), Due.fault(3, 28));
        DUE.is("it is not told", Due.readNet(x, "knot cc plain holds 1; person dd will 1 at cc;"), 0);
    }

    private static void cannotStandThere() {
        DUE.about("1 it is none, or can't stand there");
        for (String word : new String[] {"holds", "will", "at", "plain", "not", "a", "1", ";", "(", "hour", "shift",
            "rouse", "lie", "tie", "hold", "net", "KNOT"}) {
            fault(word + " ;", 1, 0);
            fault(LIES + word, 1, LIES.length());
        }
        String[] knot = {"knot", "cc", "plain", "holds", "5", ";"};
        String[] string = {"string", "aa", "bb", ";"};
        String[] person = {"person", "pp", "will", "7", "at", "aa", ";"};
        for (String[] line : new String[][] {knot, string, person}) {
            for (int cut = 1; cut < line.length; cut++) {
                StringBuilder text = new StringBuilder(TWO);
                for (int i = 0; i < cut; i++) {
                    text.append(line[i]).append(' ');
                }
                fault(text + ") ;", 1, text.length());
                fault(text + "knot", 1, text.length());
                fault(text + "string", 1, text.length());
                fault(text + "" + line[0] + " " + line[1], 1, text.length());
            }
        }
    }

    private static void endIsAToken() {
        DUE.about("the end being one at the text's length");
        String line = "knot cc plain holds 5 ; string cc aa ; against aa cc ; person qq will 7 at aa ; lulls 1 ;";
        for (int cut = 0; cut <= line.length(); cut++) {
            String text = TWO + line.substring(0, cut);
            String behind = line.substring(cut).stripLeading();
            boolean whole = text.stripTrailing().endsWith(";");
            boolean betweenTokens = cut == line.length() || line.charAt(cut) == ' ' || text.endsWith(" ");
            if (betweenTokens) {
                String call = "net of " + text + " without " + behind;
                DUE.is(call, Due.readNet(new HammockNet(), text), whole ? 0 : Due.fault(1, text.length()));
                DUE.is(call + ", blanks", Due.readNet(new HammockNet(), text + " \n "),
                        whole ? 0 : Due.fault(1, text.length() + 3));
            }
        }
    }

    private static void firstFromTheLeft() {
        DUE.about("of the first token from the left that is wrong");
        fault("knot a plain holds 21 ; knot a ; ; 5", 4, 19);
        fault("knot a plain holds 5 ; knot a plain holds 99 ;", 3, 28);
        fault(TWO + "string zz yy ;", 2, 54);
        fault(TWO + "string aa aa person", 3, 57);
        fault(TWO + "person pp will 41 at zz ;", 4, 62);
        fault(TWO + "person aa will 41 at zz ;", 3, 54);
        fault("lulls (1 + ; lulls", 1, 11);
        fault("lulls not not not not not 1 2 A", 5, 26);
        String eight = Due.knots(8, "plain", 1);
        fault(eight + "knot plain A", 5, eight.length());
        fault("knot a plain holds 1 ; strin a a ;", 1, 23);
    }

    private static void leastOfAToken() {
        DUE.about("of the first token from the left that is wrong the least");
        // none, before a NUMBER that is not as told, a NAME of no KNOT, a NAME told
        fault("knot a plain holds 00021 ;", 1, 19);
        fault(TWO + "string aa abcdefghi ;", 1, 57);
        fault(TWO + "string aa at ;", 1, 57);
        // what can't stand there is not one too many
        String eight = Due.knots(8, "plain", 1);
        fault(eight + "string a knot", 1, eight.length() + 9);
        fault("lulls 1 lulls", 1, 8);
        String four = Due.knots(4, "plain", 1) + FOUR_LIE;
        fault(four + "string person", 1, four.length() + 7);
        String full = Due.knots(5, "plain", 1) + pairs("string", 16) + pairs("against", 12);
        fault(full + "against", 5, full.length());
        fault(full + "lulls string", 1, full.length() + 6);
        // a NAME of no KNOT can't be told already
        fault(TWO + "string aa cc ; string aa cc ;", 2, 57);
        fault(TWO + "against cc cc ;", 2, 55);
        // within five, what is none is none
        fault("lulls (((((abcdefghi", 1, 11);
        fault("lulls (((((12345", 1, 11);
        fault("lulls (((((A", 1, 11);
        fault("lulls ((((( ", 1, 12);
        fault("lulls (((((will", 1, 11);
        fault("lulls (((((x", 1, 11);
        fault("lulls not(not(not )", 1, 18);
    }

    private static void aNetFromThenOn() {
        DUE.about("hour 0, all lie where told, nobody has shifted, strings as told, no REST, nothing SEEN, "
                + "nothing can be undone, no MARK is there");
        String net = LIES + "person qq will 3 at aa ; string aa bb ; string bb aa ; lulls 2 ;";
        String first = Due.stateOf(Due.net(net));
        HammockNet x = Due.net(net);
        x.hour();
        x.rouse(0);
        x.rouse(1);
        x.tie(0, 1);
        x.see(0, 1, 3, true);
        Due.readRest(x, "hour ; hour ;");
        for (int mark = 0; mark < 4; mark++) {
            x.mark(mark, false);
        }
        DUE.is("the same net anew", Due.readNet(x, net), 0);
        DUE.stays("the same net anew", x, first);
        for (int mark = 0; mark < 4; mark++) {
            DUE.is("no mark " + mark, x.mark(mark, true), false);
        }
        DUE.is("nothing to undo", x.undo(), false);
        DUE.stays("what could not be", x, first);
        DUE.is("an empty net", x.net(), 0);
        DUE.stays("an empty net", x, Due.stateOf(new HammockNet()));
    }

    private static void allStaysByAFault() {
        DUE.about("net(): .. or its FAULT (all stays then)");
        String other = "knot a firm holds 1 ; knot b dent holds 2 ; string b a ; against b a ; person p will 1 at b ; lulls 9 ;";
        for (String behind : new String[] {";", "knot", "lulls", "string a a", "person q will 41", "against a z", "A"}) {
            HammockNet x = Due.net(LIES + "string aa bb ; string bb aa ; against aa bb ; lulls 2 ;");
            x.shift(0, 1);
            x.see(0, 1, 3, true);
            x.see(0, 1, 4, false);
            Due.readRest(x, "hour ; hour ;");
            x.mark(3, false);
            x.hour();
            String before = Due.stateOf(x);
            DUE.is("a faulty net with " + behind, Due.readNet(x, other + behind) > 0, true);
            DUE.stays("a faulty net with " + behind, x, before);
            DUE.is("the names stay", Due.readRest(x, "rouse pp ; tie aa bb ;"), 0);
            DUE.is("those of the faulty one are none", Due.readRest(x, "rouse p ;"), Due.fault(2, 6));
            DUE.is("the mark is there", x.mark(3, true), true);
            DUE.is("lulls stays", x.shift(0, 0), 3);
        }
    }

    private static void fullNet() {
        DUE.about("8 at most .. 16 at most .. 12 at most .. 4 at most");
        String pairs = Due.pairs("string", "ab", "bc", "cd", "de", "ef", "fg", "gh", "ha", "ba", "cb", "dc", "ed", "fe", "gf",
                "hg", "ah") + Due.pairs("against", "ab", "bc", "cd", "de", "ef", "fg", "gh", "ha", "hg", "hf", "he", "hd");
        HammockNet x = Due.net(Due.knots(8, "slip", 20) + pairs
                + "person p will 40 at h;person q will 40 at h;person r will 40 at h;person s will 40 at h;");
        DUE.is("all lie", x.count(4), 15);
        DUE.is("all are awake", x.count(5), 15);
        DUE.is("the will of all", x.count(6), 160);
        DUE.is("all at h", x.knot(7, 4), 15);
        DUE.is("strings from h", x.knot(7, 2), 65);
        DUE.is("what h is against", x.knot(7, 3), 121);
        DUE.is("the crowd", x.crowd(), 7);
        DUE.is("the last falls", x.falls(3), 1);
        DUE.is("all fall", x.hour(), 15);
        DUE.is("nobody lies", x.count(4), 0);
        DUE.is("their will stays", x.count(6), 156);
    }
}
