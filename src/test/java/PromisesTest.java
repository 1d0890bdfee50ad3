import java.util.NoSuchElementException;

/** The document's words one behind the other, from the first line to the last, each by an example of what it says. */
public final class PromisesTest {
    private static final Due DUE = new Due("PromisesTest");
    private static final String KNOTS_TOLD = "knot a plain holds 5 ; knot b firm holds 8 ; knot c slip holds 2 ;"
            + " knot d dent holds 6 ; ";
    /** ann goes round a, b, d; c is an end, and lets her through. */
    private static final String NET = KNOTS_TOLD
            + "string a b ; string a c ; string b d ; string d a ; against a b ; against b a ; against b c ; against c d ;"
            + " person ann will 6 at a ; person bob will 0 at b ; person cid will 3 at a ; ";
    private static final int ANN = 0;
    private static final int BOB = 1;
    private static final int CID = 2;
    private static final int A = 0;
    private static final int B = 1;
    private static final int C = 2;
    private static final int D = 3;

    private PromisesTest() {
    }

    public static void main(String[] args) {
        newObject();
        fed();
        tokens();
        netTold();
        names();
        namesOfNothing();
        toldAlready();
        numbersAndTooMany();
        restTold();
        knots();
        persons();
        deeds();
        hoursAndUndo();
        judged();
        hoursGoingBy();
        alongStrings();
        fewestShifts();
        reasons();
        tugs();
        seen();
        chances();
        lulls();
        seasons();
        seasonsOfOneUp();
        seasonsByShifts();
        marksAndCounts();
        DUE.end();
    }

    private static void newObject() {
        DUE.about("The constants: NONE = -1: None.");
        DUE.is("NONE", HammockNet.NONE, -1);
        HammockNet x = new HammockNet();
        DUE.about("HammockNet(): Nothing. .. At first: nothing.");
        for (int what = 0; what <= 10; what++) {
            DUE.is("new count(" + what + ")", x.count(what), 0);
        }
        DUE.is("new knot(0, 0)", x.knot(0, 0), -1);
        DUE.is("new person(0, 0)", x.person(0, 0), -2);
        DUE.is("new undo()", x.undo(), false);
        DUE.is("new mark(0, true)", x.mark(0, true), false);
    }

    private static void fed() {
        HammockNet x = new HammockNet();
        DUE.about("int feed(long a, long b, long c): Up to 24 signs come behind the TAPE: the bytes of a, b, c, of each the"
                + " highest first; others than 10 and 32 .. 126, and what is beyond 1,000, are left out: how many there are.");
        DUE.is("24 signs", x.feed(0x6b6e6f7420612070L, 0x6c61696e20686f6cL, 0x6473203720202020L), 24);
        DUE.is("one sign, in the midst of others", x.feed(0x1f7f80ff3b000900L, 0, 0), 25);
        DUE.is("as told by these bytes in turn", x.net(), 0);
        DUE.is("a holds 7", x.knot(A, 1), 7);
        DUE.about("what reads it takes it: it is empty then");
        DUE.is("signs", x.feed(0, 0, 0), 0);
    }

    /** A text with ^ ahead of the token that is wrong; that token's FAULT is due. */
    private static void netFault(int kind, String text) {
        int place = text.indexOf('^');
        String told = text.substring(0, place) + text.substring(place + 1);
        DUE.is("net of " + text, Due.readNet(new HammockNet(), told), Due.fault(kind, place));
    }

    private static void restFault(int kind, String text) {
        int place = text.indexOf('^');
        String told = text.substring(0, place) + text.substring(place + 1);
        DUE.is("rest of " + text, Due.readRest(Due.net(NET), told), Due.fault(kind, place));
    }

    private static void tokens() {
        DUE.about("TOKENS, each as long as can be, blanks (10, 32) between where one likes: WORDS (letters a .. z, 8 at most),"
                + " NUMBERS (1 to 4 digits; a letter may stand right behind), the signs ( ) < = + - * ;  All else (a longer WORD"
                + " or NUMBER, too, at its first sign) is none.");
        DUE.is("blanks everywhere", Due.readNet(new HammockNet(), "\n lulls\n(1 <2)=\n3 +4 - 5* 6 ;  \n"), 0);
        DUE.is("blanks nowhere", Due.readNet(new HammockNet(), "lulls(1<2)=3+4-5*6or 7and 8;knot abcdefgh plain holds 0007;"), 0);
        DUE.is("letters behind a number", Due.readNet(new HammockNet(), "lulls 12and 3or hold;"), 0);
        netFault(1, "knot ^abcdefghi plain");
        netFault(1, "knot a plain holds ^00007 ;");
        netFault(1, "lulls 1 ^\"");
        netFault(1, "knot a^1 plain");
        netFault(1, "knot a^A plain");
        netFault(1, "knot a ^plainholds 1 ;");
    }

    private static void netTold() {
        DUE.about("int net(): The TAPE is read as a NET: 0, or its FAULT (all stays then).");
        HammockNet x = Due.net(NET);
        DUE.is("a fault", Due.readNet(x, "knot k plain holds 1 ; knot"), Due.fault(1, 27));
        DUE.is("all stays", x.count(0), 4);
        DUE.about("FAULTS, kind + 16 * the place (from 0) of a token, the end being one at the text's length");
        netFault(1, "^; knot");
        netFault(1, "knot a plain holds 1 ;\n ^12");
        netFault(1, "knot a plain ^");
        DUE.about("NET: any number of knot NAME KIND holds N ; string NAME NAME ; against NAME NAME ;"
                + " person NAME will N at NAME ; lulls E ; .. numbered as told .. lulls: once.");
        x = Due.net("lulls 3 ; knot z dent holds 4 ; person y will 9 at z ; knot x firm holds 2 ; against x z ; string x z ;"
                + " person w will 8 at x ; string z x ;");
        DUE.is("z, the first", x.knot(0, 1), 4);
        DUE.is("x, the second", x.knot(1, 1), 2);
        DUE.is("y, the first", x.person(0, 0), 9);
        DUE.is("w, the second", x.person(1, 1), 1);
        DUE.is("x is against z", x.knot(1, 3), 1);
        DUE.is("z is against none", x.knot(0, 3), 0);
        DUE.is("two strings", x.count(1), 2);
        DUE.is("lulled by 3", x.shift(0, 1), 6);
        DUE.is("lulled by twice 3", x.shift(1, 0), 2);
    }

    private static void names() {
        DUE.about("A NAME is another WORD than knot, holds, string, against, person, will, at, lulls, hour, shift, rouse,"
                + " lie, tie, the KINDS, not, and, or");
        for (String word : Due.RESERVED) {
            netFault(1, "knot ^" + word + " plain holds 1 ;");
            netFault(1, "knot k plain holds 1 ; person ^" + word + " will 1 at k ;");
            netFault(1, "knot k plain holds 1 ; string k ^" + word + " ;");
            restFault(1, "rouse ^" + word + " ;");
        }
        for (String word : new String[] {"hold", "mind", "many", "others", "e", "up", "asleep", "net", "rest"}) {
            HammockNet x = new HammockNet();
            DUE.is("knot " + word, Due.readNet(x, "knot " + word + " plain holds 6 ; person p will 9 at " + word
                    + " ; knot k plain holds 1 ; string k " + word + " ; lulls hold ;"), 0);
            DUE.is("tie k " + word, Due.readRest(x, "tie k " + word + " ; lie p " + word + " ;"), 0);
        }
        DUE.about("no two (KNOTS, PERSONS) are alike .. 3 a NAME told already");
        netFault(3, "knot k plain holds 1 ; knot ^k firm holds 2 ;");
        netFault(3, "knot k plain holds 1 ; person ^k will 2 at k ;");
        netFault(3, "knot k plain holds 1 ; person p will 2 at k ; person ^p will 2 at k ;");
        netFault(3, "knot k plain holds 1 ; person p will 2 at k ; knot ^p firm holds 2 ;");
    }

    private static void namesOfNothing() {
        DUE.about("2 a NAME of no KNOT (behind string, its second, against, its second, at, the second of shift, of lie, tie,"
                + " its second), of no PERSON (behind shift, rouse, lie) told");
        for (String name : new String[] {"zz", "ann", "hold", "others"}) {
            netFault(2, NET + "string ^" + name + " a ;");
            netFault(2, NET + "string b ^" + name + " ;");
            netFault(2, NET + "against ^" + name + " a ;");
            netFault(2, NET + "against a ^" + name + " ;");
            netFault(2, NET + "person p will 1 at ^" + name + " ;");
            restFault(2, "shift ann ^" + name + " ;");
            restFault(2, "lie ann ^" + name + " ;");
            restFault(2, "tie ^" + name + " a ;");
            restFault(2, "tie a ^" + name + " ;");
        }
        for (String name : new String[] {"zz", "a", "hold", "others"}) {
            restFault(2, "shift ^" + name + " a ;");
            restFault(2, "rouse ^" + name + " ;");
            restFault(2, "lie ^" + name + " a ;");
        }
        netFault(2, "knot k plain holds 1 ; string k ^later ; knot later plain holds 1 ;");
    }

    private static void toldAlready() {
        DUE.about("the second one of string, against, tie that is the first one, of string, against that is told so of the"
                + " first one; lulls a second time");
        netFault(3, NET + "string a ^a ;");
        netFault(3, NET + "against a ^a ;");
        restFault(3, "tie a ^a ;");
        netFault(3, NET + "string a ^b ;");
        netFault(3, NET + "against a ^b ;");
        netFault(3, NET + "lulls 1 ; ^lulls 1 ;");
        netFault(3, NET + "lulls 1 ; ^lulls");
        DUE.is("strings and against of the same two", Due.readNet(new HammockNet(), NET + "string b a ; against a d ;"), 0);
        DUE.is("twice the same tie", Due.readRest(Due.net(NET), "tie a b ; tie a b ; tie b a ;"), 0);
    }

    private static void numbersAndTooMany() {
        DUE.about("holds 0 to 20 .. will 0 to 40 .. 4 a NUMBER that is not as told; 5 one too many");
        for (int number : new int[] {0, 20, 40}) {
            DUE.is("will " + number, Due.readNet(new HammockNet(), NET + "person p will " + number + " at a ;"), 0);
        }
        netFault(4, NET + "person p will ^41 at a ;");
        netFault(4, NET + "knot p plain holds ^21 ;");
        netFault(4, NET + "knot p plain holds ^9999 ;");
        netFault(1, NET + "knot p plain holds ^99999 ;");
        String eight = Due.knots(8, "plain", 1);
        netFault(5, eight + "^knot knot");
        netFault(1, eight + "^not");
        String strings = Due.pairs("string", "ab", "ac", "ad", "ae", "af", "ag", "ah", "ba", "bc", "bd", "be", "bf", "bg", "bh",
                "ca", "cb");
        netFault(5, eight + strings + "^string a b ;");
        String against = Due.pairs("against", "ab", "ac", "ad", "ae", "af", "ag", "ah", "ba", "bc", "bd", "be", "bf");
        netFault(5, eight + strings + against + "^against a b ;");
        String persons = "person p will 0 at a;person q will 0 at a;person r will 0 at a;person s will 0 at a;";
        netFault(5, eight + persons + "^person p will");
    }

    private static void restTold() {
        DUE.about("int rest(): The TAPE is read as a REST, likewise.");
        HammockNet x = Due.net(NET);
        DUE.about("REST: any number of hour ; shift NAME NAME ; rouse NAME ; lie NAME NAME ; tie NAME NAME ; (a PERSON to a"
                + " KNOT; a PERSON; a PERSON at a KNOT; two KNOTS, not the same), 40 lines at most.");
        DUE.is("one of each", Due.readRest(x, "hour ; shift ann b ; rouse ann ; lie ann c ; tie a d ;"), 0);
        DUE.is("lines", x.count(7), 5);
        DUE.is("nothing is done by it", x.count(3), 0);
        restFault(1, "hour ^ann ;");
        restFault(1, "rouse ann ^a ;");
        restFault(1, "lie ann ^;");
        DUE.is("a fault", Due.readRest(x, "hour ; hour"), Due.fault(1, 11));
        DUE.is("lines stay", x.count(7), 5);
    }

    private static void knots() {
        HammockNet x = Due.net(NET);
        DUE.about("int knot(int knot, int what): Of a KNOT, what 0: KIND (0 plain, 1 firm, 2 slip, 3 dent), 1: what it holds,"
                + " 2: KNOTS to which strings lead from it, as bits, 3: KNOTS against which it is, as bits, 4: who lies there,"
                + " as bits; NONE: others.");
        int[][] due = {{0, 5, 6, 2, 5}, {1, 8, 8, 5, 2}, {2, 2, 0, 8, 0}, {3, 6, 1, 0, 0}};
        for (int k = 0; k < 20; k++) {
            DUE.is("knot(" + k / 5 + ", " + k % 5 + ")", x.knot(k / 5, k % 5), due[k / 5][k % 5]);
        }
        DUE.is("no knot", x.knot(4, 0), -1);
        DUE.is("no such what", x.knot(A, 5), -1);
    }

    private static void persons() {
        HammockNet x = Due.net(NET);
        x.shift(CID, B);
        x.rouse(ANN);
        DUE.about("int person(int person, int what): Of a PERSON, what 0: will, 1: the KNOT (NONE: UP), 2: how often they have"
                + " shifted, 3: 0 UP, 1 asleep, 2 awake; -2: others.");
        int[][] due = {{6, -1, 0, 0}, {0, B, 0, 1}, {2, B, 1, 2}};
        for (int p = 0; p < 12; p++) {
            DUE.is("person(" + p / 4 + ", " + p % 4 + ")", x.person(p / 4, p % 4), due[p / 4][p % 4]);
        }
        DUE.is("no person", x.person(3, 0), -2);
        DUE.is("no such what", x.person(ANN, 4), -2);
    }

    private static void deeds() {
        HammockNet x = Due.net(NET);
        DUE.about("int shift(int person, int knot): SHIFT: their will then; NONE: others, it can't be.");
        DUE.is("to b", x.shift(ANN, B), 5);
        DUE.is("to where no string leads", x.shift(ANN, A), -1);
        DUE.is("of one asleep", x.shift(BOB, D), -1);
        DUE.is("of nobody", x.shift(3, A), -1);
        DUE.about("int rouse(int person): ROUSE: the KNOT; NONE: others, UP.");
        DUE.is("bob", x.rouse(BOB), B);
        DUE.is("bob, up", x.rouse(BOB), -1);
        DUE.about("boolean lie(int person, int knot): LIE: true; false: others, they lie.");
        DUE.is("bob at d", x.lie(BOB, D), true);
        DUE.is("bob, who lies", x.lie(BOB, A), false);
        DUE.about("int tie(int knot, int other): TIE: 1 a string leads there then, 0 it does not; NONE: others, the same.");
        DUE.is("off", x.tie(A, B), 0);
        DUE.is("on", x.tie(A, B), 1);
        DUE.is("the same", x.tie(A, A), -1);
        DUE.is("no knot", x.tie(A, 4), -1);
        DUE.is("deeds that were", x.count(9), 5);
    }

    private static void hoursAndUndo() {
        HammockNet x = Due.net(NET + "string c d ;");
        DUE.about("int hour(): HOUR: who falls through by it, as bits.");
        DUE.is("nobody", x.hour(), 0);
        DUE.about("boolean undo(): UNDO: true; false: nothing can be.");
        DUE.is("undo", x.undo(), true);
        DUE.is("nothing", x.undo(), false);
        x.tie(A, B);
        DUE.about("int hour(): HOUR: who falls through by it, as bits.");
        DUE.is("ann at c", x.hour(), 1 << ANN);
        DUE.is("cid was held", x.person(CID, 1), C);
    }

    private static void judged() {
        HammockNet x = Due.net(NET);
        DUE.about("int judged(int what): JUDGED, what 0, 1: lines (NONE: none), 2: how many; -2: others.");
        int[] due = {1, -1, 0};
        Due.readRest(x, "hour ; shift ann a ; rouse bob ; rouse bob ;");
        for (int what = 0; what < 3; what++) {
            DUE.is("judged(" + what + ")", x.judged(what), due[what]);
        }
        due = new int[] {-1, 0, 2};
        Due.readRest(x, "shift ann c ; lie ann d ; hour ; hour ;");
        for (int what = 0; what < 3; what++) {
            DUE.is("judged(" + what + ") of one who falls", x.judged(what), due[what]);
        }
        DUE.is("judged(3)", x.judged(3), -2);
        DUE.is("judged(-1)", x.judged(-1), -2);
    }

    private static void hoursGoingBy() {
        HammockNet x = Due.net(NET);
        DUE.about("int later(int person, int hours): LATER (NONE: UP); -2: others.");
        int[] places = {A, B, D, A, B, D, D};
        for (int hours = 0; hours < places.length; hours++) {
            DUE.is("later(ann, " + hours + ")", x.later(ANN, hours), places[hours]);
        }
        DUE.is("later(ann, 61)", x.later(ANN, 61), -2);
        DUE.about("int sleeps(int person): SLEEPS; NONE: others, UP, not by 60.");
        DUE.is("ann", x.sleeps(ANN), 5);
        DUE.is("bob", x.sleeps(BOB), 0);
        DUE.is("cid", x.sleeps(CID), 2);
        DUE.about("int still(): STILL; NONE: not by 60.");
        DUE.is("all", x.still(), 5);
        DUE.about("int meet(int person, int other): MEET; NONE: others, the same, not by 60.");
        DUE.is("ann and cid, now", x.meet(ANN, CID), 0);
        DUE.is("ann and bob", x.meet(ANN, BOB), 1);
        DUE.is("ann and ann", x.meet(ANN, ANN), -1);
        DUE.about("int crowd(): CROWD; NONE: nobody lies.");
        DUE.is("two at a", x.crowd(), A);
        DUE.about("int falls(int person): FALLS; NONE: others, UP, not by 60.");
        DUE.is("ann, by b", x.falls(ANN), -1);
        x.tie(A, B);
        DUE.is("ann, by c", x.falls(ANN), 1);
        DUE.is("cid is held", x.falls(CID), -1);
        DUE.is("nobody", x.falls(3), -1);
        DUE.is("ann later", x.later(ANN, 1), -1);
    }

    private static void alongStrings() {
        HammockNet x = Due.net(NET);
        DUE.about("int reach(int knot): REACH, as bits; NONE: others.");
        DUE.is("a", x.reach(A), 15);
        DUE.is("c", x.reach(C), 0);
        DUE.is("no knot", x.reach(4), -1);
        DUE.about("int far(int knot, int other): FAR (0: the same); NONE: others, never.");
        DUE.is("a to d", x.far(A, D), 2);
        DUE.is("a to a", x.far(A, A), 0);
        DUE.is("c to a", x.far(C, A), -1);
        DUE.about("WALKS of two KNOTS: in how many ways one comes from the first one to the second one by just so many (0 to 9)"
                + " strings. .. int walks(int knot, int other, int strings): WALKS, how many; NONE: others.");
        DUE.is("round", x.walks(A, A, 3), 1);
        DUE.is("round, and on", x.walks(A, C, 4), 1);
        DUE.is("back from there", x.walks(C, A, 4), 0);
        x.tie(A, D);
        DUE.is("by d, a", x.walks(A, D, 3), 1);
        DUE.is("by b, d, a, b or by d, a, d, a", x.walks(A, D, 5), 2);
        x.undo();
        DUE.about("int rings(): RINGS, as bits. .. int ends(): ENDS, as bits. .. int trails(): TRAILS, as bits.");
        DUE.is("rings", x.rings(), 11);
        DUE.is("ends", x.ends(), 4);
        DUE.is("trails", x.trails(), 0);
        x.tie(D, A);
        DUE.is("rings, cut", x.rings(), 0);
        DUE.is("ends, cut", x.ends(), 12);
        DUE.is("trails, cut", x.trails(), 1);
        DUE.about("int firms(int knot): FIRMS; NONE: others.");
        DUE.is("b, c, d", x.firms(A), 16);
        DUE.is("none", x.firms(C), 0);
        DUE.is("no knot", x.firms(-1), -1);
    }

    private static void fewestShifts() {
        HammockNet x = Due.net(NET);
        DUE.about("GOAL of a PERSON who is awake and a KNOT: the fewest SHIFTS (30 at most), along strings as one likes .. int"
                + " goal(int person, int knot): GOAL; NONE: others, not awake, not by 30.");
        DUE.is("there", x.goal(ANN, A), 0);
        DUE.is("b, d", x.goal(ANN, D), 2);
        DUE.is("b, d, a, c", x.goal(ANN, C), 4);
        DUE.is("c at once", x.goal(CID, C), 1);
        DUE.is("asleep", x.goal(BOB, B), -1);
        DUE.about("DOZE: likewise, by which they are asleep. .. int doze(int person): DOZE; NONE: others, not awake, not by 30.");
        DUE.is("b, d, a, b, d", x.doze(ANN), 5);
        DUE.is("b, d", x.doze(CID), 2);
        DUE.is("asleep already", x.doze(BOB), -1);
        DUE.about("TILES: by which they fall through. .. int tiles(int person): TILES; NONE: others, not awake, not by 30.");
        DUE.is("c", x.tiles(ANN), 1);
        DUE.is("c holds", x.tiles(CID), -1);
        DUE.about("int held(): HELD, as bits (0: none need).");
        DUE.is("they go by b", x.held(), 0);
        x.tie(A, B);
        DUE.is("they go by c", x.held(), 1 << C);
    }

    private static void reasons() {
        HammockNet x = Due.net(NET);
        // {}, {a}, {b}, {a, c}, {b, d}
        DUE.about("int stands(): STANDS, how many.");
        DUE.is("sets", x.stands(), 5);
        DUE.about("int largest(): LARGEST, as bits.");
        DUE.is("a and c", x.largest(), 5);
        DUE.about("int whole(): WHOLE, how many.");
        DUE.is("a and c, b and d", x.whole(), 2);
        DUE.about("SURE: the least set that one gets .. int sure(): SURE, as bits.");
        DUE.is("none", x.sure(), 0);
        DUE.is("a, then c", Due.net(Due.knots(4, "plain", 1) + Due.pairs("against", "ab", "bc", "cd")).sure(), 5);
        DUE.about("int opposed(int knot): OPPOSED, as bits; NONE: others.");
        DUE.about("int defends(int knot): DEFENDS, as bits; NONE: others.");
        int[] opposed = {2, 1, 2, 4, -1};
        int[] defends = {1, 2, 1, 2, -1};
        for (int k = 0; k < 5; k++) {
            DUE.is("opposed(" + k + ")", x.opposed(k), opposed[k]);
            DUE.is("defends(" + k + ")", x.defends(k), defends[k]);
        }
    }

    private static void tugs() {
        HammockNet x = Due.net(NET);
        DUE.about("TUG from a KNOT: two pull by turns along strings, the first one from that KNOT on; who can't has lost. .. Who"
                + " wins; in how many pulls");
        int[] wins = {1, 1, 0, 0};
        int[] pulls = {1, 3, 0, 2};
        int[] best = {C, D, -1, A};
        for (int k = 0; k < 4; k++) {
            DUE.about("int tug(int knot, int what): TUG, what 0: who wins (1 the first one, 0 the other one, 2 it never ends),"
                    + " 1: in how many pulls (NONE: it never ends); -2: others.");
            DUE.is("tug(" + k + ", 0)", x.tug(k, 0), wins[k]);
            DUE.is("tug(" + k + ", 1)", x.tug(k, 1), pulls[k]);
            DUE.about("int pull(int knot): PULL; NONE: others, there is no string.");
            DUE.is("pull(" + k + ")", x.pull(k), best[k]);
        }
        x.tie(A, C);
        DUE.is("a ring", x.tug(A, 0), 2);
        DUE.is("a ring's pulls", x.tug(A, 1), -1);
        DUE.is("no knot", x.tug(4, 0), -2);
    }

    private static void seen() {
        HammockNet x = Due.net(NET);
        DUE.about("SEEN: that an unknown PERSON of an unknown will (1 to 40), lying at a told KNOT now, having never shifted, no"
                + " others being at any KNOT, lies, HOURS going by, at a KNOT behind so many (0 to 30) of them, or does not; 8"
                + " at most, all from one told KNOT (with another one it begins anew; strings as they are when it is asked).");
        DUE.about("int wills(int what): WILLS, what 0: how many (40 if nothing is SEEN), 1: the least, 2: the greatest; NONE:"
                + " others, none (but 0).");
        DUE.is("how many, nothing being seen", x.wills(0), 40);
        DUE.about("int ask(): ASK; NONE: nothing is SEEN, none parts them.");
        DUE.is("ask, nothing being seen", x.ask(), -1);
        DUE.about("boolean see(int from, int knot, int hours, boolean there): SEEN from the first KNOT, at the second one: true;"
                + " false: others, 8 there are from that.");
        DUE.is("at d behind 2", x.see(A, D, 2, true), true);
        DUE.is("at a behind 3", x.see(A, A, 3, true), true);
        DUE.is("no knot", x.see(A, 4, 3, true), false);
        // 4 comes to b with 3, to d with 1; 3 to d with 0
        DUE.about("WILLS by which all SEEN is so: how many; the least; the greatest.");
        DUE.is("how many", x.wills(0), 37);
        DUE.is("the least", x.wills(1), 4);
        DUE.is("the greatest", x.wills(2), 40);
        DUE.is("no such what", x.wills(3), -1);
        x.see(A, A, 0, false);
        DUE.is("none", x.wills(0), 0);
        DUE.is("the least of none", x.wills(1), -1);
        x = Due.net("knot a plain holds 1 ; knot b plain holds 1 ; knot c plain holds 1 ; string a b ; string b c ;");
        x.see(A, A, 0, true);
        DUE.about("ASK: the least number of HOURS (0 to 30) behind which the greatest number of these who lie at one KNOT, or are"
                + " UP, is the least, if that is less than all. .. int ask(): ASK; NONE: nothing is SEEN, none parts them.");
        DUE.is("1 sleeps at b", x.ask(), 2);
        x.see(A, C, 2, true);
        DUE.is("all at c", x.ask(), -1);
    }

    private static void chances() {
        HammockNet x = Due.net(NET);
        DUE.about("CHANCE: in each of so many (1 to 6) HOURS a PERSON, by odds of ten, does not go to the KNOT that holds the most"
                + " but to the one of them that holds the least (of equal ones the first): that they are UP behind these, in"
                + " millionths, cut.");
        DUE.about("int chance(int person, int hours, int odds): CHANCE, by odds (0 to 10); NONE: others, UP.");
        DUE.is("by 3 of ten", x.chance(ANN, 1, 3), 300000);
        DUE.is("by ten of ten", x.chance(ANN, 2, 10), 1000000);
        DUE.is("by none", x.chance(ANN, 6, 0), 0);
        DUE.is("cid is held", x.chance(CID, 6, 10), 0);
        // at a again behind 3, by 0.7; of a will of 2 then, which c holds
        DUE.is("held the second time", x.chance(ANN, 4, 3), 300000);
        x.rouse(CID);
        DUE.is("up", x.chance(CID, 1, 1), -1);
    }

    /** What the one gets who lies or minds (1, 0), the other one lying or minding. */
    private static int gets(int one, int other, int both, int loses, int gains) {
        if (one == 1) {
            return other == 1 ? both : -loses;
        }
        return other == 1 ? gains : 0;
    }

    private static boolean wouldGetMore(int one, int other, int both, int loses, int gains) {
        return gets(1 - one, other, both, loses, gains) > gets(one, other, both, loses, gains);
    }

    private static void lulls() {
        HammockNet x = new HammockNet();
        DUE.about("LULL of two: each lies or minds: both lie: each gets so much (0 to 9); one lies: he loses so much (0 to 9), the"
                + " other one gets so much (0 to 9); both mind: nothing: RESTS: by which neither would get more by the other.");
        DUE.about("int rests(int both, int loses, int gains, int what) throws NoSuchElementException: RESTS of LULL by what both"
                + " get, what one loses, what the other one gets, what NONE: how many; i: the i-th as 2 * the first one's choice"
                + " + the other one's (1 lies; the least first). NoSuchElementException: others, none such.");
        for (int lull = 0; lull < 1000; lull++) {
            int both = lull / 100;
            int loses = lull / 10 % 10;
            int gains = lull % 10;
            x = lull % 80 == 0 ? new HammockNet() : x;
            int found = 0;
            for (int choices = 0; choices < 4; choices++) {
                if (!wouldGetMore(choices / 2, choices % 2, both, loses, gains)
                        && !wouldGetMore(choices % 2, choices / 2, both, loses, gains)) {
                    DUE.is("rests of " + lull, rest(x, both, loses, gains, found), choices);
                    found++;
                }
            }
            DUE.is("how many rests of " + lull, rest(x, both, loses, gains, HammockNet.NONE), found);
            DUE.is("none such of " + lull, rest(x, both, loses, gains, found), -9);
        }
        DUE.noSuchLull(10, 0, 0, -1);
        DUE.noSuchLull(0, -1, 0, -1);
        DUE.noSuchLull(0, 0, 10, 0);
    }

    /** -9 where NoSuchElementException is thrown. */
    private static int rest(HammockNet x, int both, int loses, int gains, int what) {
        try {
            return x.rests(both, loses, gains, what);
        } catch (NoSuchElementException e) {
            return -9;
        }
    }

    /** The third DRAW of the first HOUR, one below 5; and, in [1], the second one, below KNOTS. */
    private static int[] firstDraws(int seed, int knots) {
        long g = seed;
        long[] drawn = new long[3];
        for (int i = 0; i < 3; i++) {
            g = (g * 1103515245L + 12345L) % 2147483648L;
            drawn[i] = g / 65536;
        }
        return new int[] {(int) (drawn[2] % 5), (int) (drawn[1] % knots)};
    }

    private static void season(HammockNet x, int seed, int falls, int lying, int will) {
        DUE.is("falls by " + seed, x.seasons(seed, 1, 0), falls);
        DUE.is("who lies by " + seed, x.seasons(seed, 1, 1), lying);
        DUE.is("will by " + seed, x.seasons(seed, 1, 2), will);
    }

    private static void seasons() {
        DUE.about("SEASONS by a SEED of so many (1 to 99) HOURS, from now on .. 0: that one is ROUSED, 1: LIES there, 2, 3: SHIFTS"
                + " there (each if it can be) .. who lies at last, as bits; the will of all at last, together.");
        DUE.about("int seasons(int seed, int hours, int what): SEASONS by a SEED (0 to 9999), what 0: how often, 1: bits, 2: will;"
                + " NONE: others.");
        String net = "knot a plain holds 5 ; knot b slip holds 3 ; string a b ; person p will 9 at a ; lulls 2 ;";
        for (int seed = 0; seed < 60; seed++) {
            boolean roused = firstDraws(seed, 2)[0] == 0;
            // else they fall through by the SHIFT or by the HOUR
            season(Due.net(net), seed, roused ? 0 : 1, 0, roused ? 9 : 7);
        }
        HammockNet x = Due.net(net);
        DUE.is("no such seed", x.seasons(10000, 1, 0), -1);
        DUE.is("no such hours", x.seasons(0, 100, 0), -1);
        DUE.is("no such what", x.seasons(0, 1, 3), -1);
    }

    private static void seasonsOfOneUp() {
        String net = "knot a plain holds 5 ; knot b slip holds 3 ; string a b ; person p will 9 at a ; lulls 2 ;";
        for (int seed = 0; seed < 60; seed++) {
            HammockNet x = Due.net(net);
            x.rouse(0);
            int[] draws = firstDraws(seed, 2);
            boolean liesAtA = draws[0] == 1 && draws[1] == 0;
            boolean liesAtB = draws[0] == 1 && draws[1] == 1;
            season(x, seed, liesAtA ? 1 : 0, liesAtB ? 1 : 0, liesAtA ? 7 : 9);
        }
    }

    private static void seasonsByShifts() {
        String net = "knot a plain holds 5 ; knot b plain holds 3 ; string a b ; string b a ; person p will 9 at a ;";
        for (int seed = 0; seed < 60; seed++) {
            int[] draws = firstDraws(seed, 2);
            boolean shifts = (draws[0] == 2 || draws[0] == 3) && draws[1] == 1;
            boolean roused = draws[0] == 0;
            season(Due.net(net), seed, 0, roused ? 0 : 1, roused ? 9 : shifts ? 7 : 8);
        }
    }

    private static void marksAndCounts() {
        HammockNet x = Due.net(NET);
        DUE.about("boolean mark(int mark, boolean back): A MARK is laid (back: gone back to): true; false: none such, nothing is on"
                + " it (back).");
        DUE.is("nothing is on it", x.mark(3, true), false);
        DUE.is("laid", x.mark(3, false), true);
        DUE.is("none such", x.mark(4, false), false);
        x.hour();
        x.tie(A, B);
        x.see(A, B, 1, true);
        Due.readRest(x, "hour ; hour ;");
        x.feed(0x2020202020202020L, 0, 0);
        DUE.about("int count(int what): What 0: KNOTS, 1: strings that are there, 2: PERSONS, 3: the hour, 4: who lies, as bits, 5:"
                + " who is awake, as bits, 6: the will of all, together, 7: lines of the REST, 8: SEEN, 9: what can be undone,"
                + " 10: signs on the TAPE. NONE for another what.");
        int[] due = {4, 3, 3, 1, 7, 5, 7, 2, 1, 2, 8, -1};
        for (int what = 0; what < due.length; what++) {
            DUE.is("count(" + what + ")", x.count(what), due[what]);
        }
        DUE.is("count(-1)", x.count(-1), -1);
        DUE.is("gone back to", x.mark(3, true), true);
        DUE.about("MARKS 0 to 3 hold all that UNDO brings back, what is SEEN (nothing can be undone when one is gone back to).");
        int[] back = {4, 4, 3, 0, 7, 5, 9, 2, 0, 0, 8};
        for (int what = 0; what < back.length; what++) {
            DUE.is("count(" + what + ") of the mark", x.count(what), back[what]);
        }
    }
}
