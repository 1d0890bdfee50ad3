/** The edges of promises 14 to 19: hours going by, nothing else being done. */
public final class HoursEdgesTest {
    private static final Due DUE = new Due("HoursEdgesTest");
    private static final int[] NO_PERSON = {-1, -2, 4, 5, 31, 32, 33, Integer.MAX_VALUE, Integer.MIN_VALUE};
    private static final String RING = "knot a plain holds 5; knot b plain holds 5; string a b; string b a;";
    /** p goes round by 1 and sleeps behind 40, q sleeps at a, r stays at c, s stays at c. */
    private static final String NET = RING + "knot c plain holds 5; person p will 40 at a; person q will 0 at a;"
            + "person r will 7 at c; person s will 0 at c;";

    private HoursEdgesTest() {
    }

    public static void main(String[] args) {
        laterEdges();
        laterOthers();
        laterUp();
        fallsEdges();
        fallsLate();
        fallsOthers();
        sleepsEdges();
        sleepsOthers();
        stillEdges();
        stillOfNobody();
        meetEdges();
        meetOthers();
        meetWhoIsUp();
        crowdEdges();
        crowdOfNobody();
        nothingIsDone();
        DUE.end();
    }

    private static void laterEdges() {
        DUE.about("LATER: where a PERSON lies behind so many (0 to 60) HOURS.");
        HammockNet x = Due.net(RING + "person p will 40 at a; lulls 0;");
        for (int hours : new int[] {0, 1, 2, 30, 31, 58, 59, 60}) {
            DUE.is("later(0, " + hours + ")", x.later(0, hours), hours % 2);
        }
        for (int hours : new int[] {-1, -60, 61, 62, 1000, Integer.MAX_VALUE, Integer.MIN_VALUE}) {
            DUE.is("later(0, " + hours + ")", x.later(0, hours), -2);
        }
        x.hour();
        DUE.is("later(0, 0) now", x.later(0, 0), 1);
        DUE.is("later(0, 60) now", x.later(0, 60), 1);
        DUE.is("later(0, 59) now", x.later(0, 59), 0);
    }

    private static void laterOthers() {
        DUE.about("later(int person, int hours): .. -2: others");
        HammockNet x = Due.net(NET);
        for (int person : NO_PERSON) {
            DUE.is("later(" + person + ", 0)", x.later(person, 0), -2);
            DUE.is("later(" + person + ", 60)", x.later(person, 60), -2);
        }
        DUE.is("later(3, 60)", x.later(3, 60), 2);
        DUE.is("later of no net", new HammockNet().later(0, 0), -2);
        x.rouse(0);
        DUE.is("up, but so many hours are none", x.later(0, 61), -2);
        DUE.is("up, but so few hours are none", x.later(0, -1), -2);
    }

    private static void laterUp() {
        DUE.about("later(int person, int hours): LATER (NONE: UP)");
        HammockNet x = Due.net(NET);
        x.rouse(0);
        DUE.is("up now", x.later(0, 0), -1);
        DUE.is("up then", x.later(0, 60), -1);
        x = Due.net("knot a plain holds 5; knot b slip holds 5; string a b; person p will 40 at a;");
        DUE.is("lies now", x.later(0, 0), 0);
        DUE.is("fallen then", x.later(0, 1), -1);
        DUE.is("lies no more", x.later(0, 60), -1);
    }

    private static void fallsEdges() {
        DUE.about("FALLS: in how many (1 to 60) one who lies falls through.");
        String chain = Due.knots(7, "plain", 1) + "knot h slip holds 3;"
                + Due.pairs("string", "ab", "bc", "cd", "de", "ef", "fg", "gh", "ha");
        HammockNet x = Due.net(chain + "person p will 11 at a; person q will 10 at a; person r will 12 at h; person s will 5 at g;");
        DUE.is("in the seventh, with 4", x.falls(0), 7);
        DUE.is("held with 3", x.falls(1), -1);
        DUE.is("from there on, in the eighth", x.falls(2), 8);
        DUE.is("in the first", x.falls(3), 1);
        x.hour();
        DUE.is("in one less", x.falls(0), 6);
        DUE.is("up by now", x.falls(3), -1);
        DUE.is("who lies at a slip need not fall", Due.net("knot a slip holds 0; person p will 9 at a;").falls(0), -1);
    }

    private static void fallsLate() {
        DUE.about("falls(int person): .. NONE: .. not by 60");
        HammockNet x = Due.net(NET);
        for (int person = 0; person < 4; person++) {
            DUE.is("falls(" + person + ")", x.falls(person), -1);
        }
        x = Due.net(RING + "person p will 40 at a; lulls 0;");
        DUE.is("never, though never asleep", x.falls(0), -1);
    }

    private static void fallsOthers() {
        DUE.about("falls(int person): .. NONE: others, UP");
        HammockNet x = Due.net("knot a plain holds 1; knot b slip holds 0; string a b; person p will 9 at a;");
        for (int person : NO_PERSON) {
            DUE.is("falls(" + person + ")", x.falls(person), -1);
        }
        DUE.is("falls(0)", x.falls(0), 1);
        DUE.is("falls(1)", x.falls(1), -1);
        x.rouse(0);
        DUE.is("up", x.falls(0), -1);
        DUE.is("falls of no net", new HammockNet().falls(0), -1);
    }

    /** By 0 but for the shift behind so many, which brings sleep. */
    private static HammockNet asleepBehind(int hours, String more) {
        return Due.net(RING + "person p will 9 at a;" + more + "lulls (many = " + (hours - 1) + ") * (mind = 9) * 9;");
    }

    private static void sleepsEdges() {
        DUE.about("SLEEPS: behind how many (0 to 60) one who lies is asleep.");
        for (int hours : new int[] {1, 2, 59, 60}) {
            DUE.is("behind " + hours, asleepBehind(hours, "").sleeps(0), hours);
        }
        DUE.is("not by 60", asleepBehind(61, "").sleeps(0), -1);
        DUE.is("never", Due.net(RING + "person p will 9 at a; lulls 0;").sleeps(0), -1);
        DUE.is("now", Due.net(RING + "person p will 0 at a;").sleeps(0), 0);
        HammockNet x = asleepBehind(61, "");
        x.hour();
        DUE.is("behind 60 now", x.sleeps(0), 60);
        x.undo();
        DUE.is("not by 60 again", x.sleeps(0), -1);
        DUE.is("40 by 1", Due.net(NET).sleeps(0), 40);
        DUE.is("stays awake", Due.net(NET).sleeps(2), -1);
    }

    private static void sleepsOthers() {
        DUE.about("sleeps(int person): .. NONE: others, UP");
        HammockNet x = Due.net(NET);
        for (int person : NO_PERSON) {
            DUE.is("sleeps(" + person + ")", x.sleeps(person), -1);
        }
        DUE.is("asleep now", x.sleeps(3), 0);
        x.rouse(3);
        DUE.is("up with a will of 0", x.sleeps(3), -1);
        x.rouse(0);
        DUE.is("up", x.sleeps(0), -1);
        DUE.is("sleeps of no net", new HammockNet().sleeps(0), -1);
        x = Due.net("knot a plain holds 1; knot b slip holds 0; string a b; person p will 9 at a; lulls 8;");
        DUE.is("falls with 1, and does not sleep", x.sleeps(0), -1);
    }

    private static void stillEdges() {
        DUE.about("STILL: behind how many (0 to 60) nobody is awake.");
        for (int hours : new int[] {1, 2, 59, 60}) {
            DUE.is("behind " + hours, asleepBehind(hours, "person q will 0 at a;").still(), hours);
        }
        DUE.is("not by 60", asleepBehind(61, "person q will 0 at a;").still(), -1);
        HammockNet x = Due.net(NET);
        DUE.is("r stays awake", x.still(), -1);
        x.rouse(2);
        DUE.is("p is the last", x.still(), 40);
        x.rouse(0);
        DUE.is("nobody now", x.still(), 0);
        x = Due.net("knot a plain holds 1; knot b slip holds 0; string a b; person p will 9 at a; person q will 0 at a;");
        DUE.is("who falls is not awake", x.still(), 1);
        x = Due.net(RING + "person p will 5 at a; person q will 9 at b;");
        DUE.is("the later of two", x.still(), 9);
    }

    private static void stillOfNobody() {
        DUE.about("STILL: behind how many (0 to 60) nobody is awake.");
        DUE.is("of no net", new HammockNet().still(), 0);
        DUE.is("of no person", Due.net(RING).still(), 0);
        DUE.is("of one asleep", Due.net(RING + "person p will 0 at a;").still(), 0);
    }

    private static void meetEdges() {
        DUE.about("MEET of two: behind how many (0 to 60) both lie at one KNOT.");
        String q = "person q will 40 at b;";
        for (int hours : new int[] {1, 2, 58, 59}) {
            DUE.is("the other one comes behind", asleepBehind(hours, q).meet(0, 1), hours + 1);
            DUE.is("the other way", asleepBehind(hours, q).meet(1, 0), hours + 1);
        }
        DUE.is("not by 60", asleepBehind(60, q).meet(0, 1), -1);
        DUE.is("now", Due.net(NET).meet(0, 1), 0);
        DUE.is("two asleep", Due.net(RING + "person p will 0 at b; person q will 0 at b;").meet(1, 0), 0);
        DUE.is("two who change places never do", Due.net(RING + "person p will 9 at a; person q will 9 at b; lulls 0;").meet(0, 1), -1);
        DUE.is("at c now", Due.net(NET).meet(3, 2), 0);
        HammockNet x = Due.net(NET);
        x.hour();
        DUE.is("behind one more", x.meet(1, 0), 1);
    }

    private static void meetOthers() {
        DUE.about("meet(int person, int other): .. NONE: others, the same");
        HammockNet x = Due.net(NET);
        for (int person : NO_PERSON) {
            DUE.is("meet(0, " + person + ")", x.meet(0, person), -1);
            DUE.is("meet(" + person + ", 0)", x.meet(person, 0), -1);
            DUE.is("meet(" + person + ", " + person + ")", x.meet(person, person), -1);
        }
        for (int person = 0; person < 4; person++) {
            DUE.is("the same", x.meet(person, person), -1);
        }
        DUE.is("meet of no net", new HammockNet().meet(0, 1), -1);
        DUE.is("of one", Due.net(RING + "person p will 1 at a;").meet(0, 1), -1);
    }

    private static void meetWhoIsUp() {
        DUE.about("both lie at one KNOT");
        HammockNet x = Due.net(NET);
        x.rouse(1);
        DUE.is("the other one is up", x.meet(0, 1), -1);
        DUE.is("the first one is up", x.meet(1, 0), -1);
        x.rouse(0);
        DUE.is("both are up", x.meet(0, 1), -1);
        x = Due.net("knot a plain holds 1; knot b slip holds 0; string a b; person p will 9 at a; person q will 9 at b;");
        DUE.is("p falls when he comes", x.meet(0, 1), -1);
    }

    private static void crowdEdges() {
        DUE.about("CROWD: the KNOT at which the most lie now; of equal ones the first.");
        HammockNet x = Due.net(NET);
        DUE.is("two at a, two at c", x.crowd(), 0);
        x.hour();
        DUE.is("one at a, one at b, two at c", x.crowd(), 2);
        x.rouse(2);
        DUE.is("one each", x.crowd(), 0);
        x.rouse(1);
        DUE.is("one at b, one at c", x.crowd(), 1);
        x.rouse(0);
        DUE.is("one asleep at c", x.crowd(), 2);
        x = Due.net(Due.knots(8, "plain", 1) + "person p will 1 at h; person q will 0 at g; person r will 0 at h;");
        DUE.is("the last", x.crowd(), 7);
        x.rouse(0);
        DUE.is("the one ahead of it", x.crowd(), 6);
    }

    private static void crowdOfNobody() {
        DUE.about("crowd(): CROWD; NONE: nobody lies.");
        DUE.is("of no net", new HammockNet().crowd(), -1);
        DUE.is("of no person", Due.net(RING).crowd(), -1);
        HammockNet x = Due.net(RING + "person p will 0 at b; person q will 9 at a;");
        x.rouse(1);
        DUE.is("of one", x.crowd(), 1);
        x.rouse(0);
        DUE.is("of two who are up", x.crowd(), -1);
    }

    private static void nothingIsDone() {
        DUE.about("(HOURS going by, nothing else being done.)");
        HammockNet x = Due.net(NET);
        x.hour();
        String before = Due.stateOf(x);
        for (int person = 0; person < 4; person++) {
            x.later(person, 60);
            x.falls(person);
            x.sleeps(person);
            x.meet(person, 0);
        }
        x.still();
        x.crowd();
        DUE.stays("questions", x, before);
    }
}
