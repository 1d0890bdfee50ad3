/** Promises 14 to 19: later, falls, sleeps, still, meet, crowd. */
public final class HoursTest {
    private static final Due DUE = new Due("HoursTest");
    private static final int[] NO_PERSON = {-1, 4, 5, Integer.MAX_VALUE, Integer.MIN_VALUE};
    /** A ring a, b, c, a way into it from d, a slip e behind it; p sleeps behind 6, q behind 9, s never. */
    private static final String NET = "knot a plain holds 5; knot b plain holds 5; knot c plain holds 5;"
            + "knot d plain holds 3; knot e slip holds 3; knot f firm holds 9; string a b; string b c; string c a;"
            + "string d c; string c e; string e f; person p will 6 at a; person q will 9 at d; person r will 0 at b;"
            + "person s will 5 at f;";

    private HoursTest() {
    }

    public static void main(String[] args) {
        later();
        falls();
        sleeps();
        still();
        meet();
        crowd();
        askingDoesNothing();
        DUE.end();
    }

    private static void later() {
        HammockNet x = Due.net(NET);
        int[] places = {0, 1, 2, 0, 1, 2, 0, 0};
        for (int hours = 0; hours < places.length; hours++) {
            DUE.is("later(0, " + hours + ")", x.later(0, hours), places[hours]);
        }
        DUE.is("later(0, 60)", x.later(0, 60), 0);
        DUE.is("asleep stays", x.later(2, 60), 1);
        DUE.is("no string stays", x.later(3, 60), 5);
        for (int hours : new int[] {-1, 61, Integer.MAX_VALUE, Integer.MIN_VALUE}) {
            DUE.is("later(0, " + hours + ")", x.later(0, hours), -2);
        }
        for (int person : NO_PERSON) {
            DUE.is("later(" + person + ", 0)", x.later(person, 0), -2);
        }
        x.rouse(0);
        DUE.is("up", x.later(0, 0), -1);
        DUE.is("up later", x.later(0, 9), -1);
        HammockNet falling = slips();
        DUE.is("ahead of falling", falling.later(0, 1), 1);
        DUE.is("fallen", falling.later(0, 2), -1);
    }

    /** From a to b to the slip c, which holds 3; by 1 an hour. */
    private static HammockNet slips() {
        return Due.net("knot a plain holds 5; knot b plain holds 5; knot c slip holds 3; string a b; string b c;"
                + "string c a; person p will 9 at a; person q will 5 at a; person r will 8 at b; person s will 0 at a;");
    }

    private static void falls() {
        HammockNet x = slips();
        DUE.is("behind 2", x.falls(0), 2);
        DUE.is("held with just 3", x.falls(1), -1);
        DUE.is("in the first", x.falls(2), 1);
        DUE.is("asleep", x.falls(3), -1);
        x.rouse(0);
        DUE.is("up", x.falls(0), -1);
        for (int person : NO_PERSON) {
            DUE.is("falls(" + person + ")", x.falls(person), -1);
        }
        DUE.is("no string to a slip", Due.net(NET).falls(0), -1);
    }

    /** Two that change places each hour; p, of a will of 9, falls asleep by the shift behind so many. */
    private static HammockNet changing(int shifts) {
        return Due.net("knot a plain holds 5; knot b plain holds 5; string a b; string b a;"
                + "person p will 9 at a; person q will 40 at b; lulls (mind = 9) * (many = " + shifts + ") * 9;");
    }

    private static void sleeps() {
        HammockNet x = Due.net(NET);
        DUE.is("behind 6", x.sleeps(0), 6);
        DUE.is("now", x.sleeps(2), 0);
        DUE.is("never", x.sleeps(3), -1);
        for (int person : NO_PERSON) {
            DUE.is("sleeps(" + person + ")", x.sleeps(person), -1);
        }
        x.rouse(2);
        DUE.is("up with a will of 0", x.sleeps(2), -1);
        DUE.is("falls through first", slips().sleeps(0), -1);
        DUE.is("behind 60", changing(59).sleeps(0), 60);
        DUE.is("behind 61", changing(60).sleeps(0), -1);
    }

    private static void still() {
        HammockNet x = Due.net(NET);
        DUE.is("s never sleeps", x.still(), -1);
        x.rouse(3);
        DUE.is("q is the last", x.still(), 9);
        x.rouse(1);
        DUE.is("then p", x.still(), 6);
        x.rouse(0);
        DUE.is("only one asleep", x.still(), 0);
        DUE.is("no net", new HammockNet().still(), 0);
        x = changing(59);
        x.rouse(1);
        DUE.is("behind 60", x.still(), 60);
        x = changing(60);
        x.rouse(1);
        DUE.is("behind 61", x.still(), -1);
    }

    private static void meet() {
        HammockNet x = Due.net(NET);
        DUE.is("p at a, r at b", x.meet(0, 2), 1);
        DUE.is("the other way", x.meet(2, 0), 1);
        DUE.is("q comes to a, where p sleeps", x.meet(0, 1), 8);
        DUE.is("never", x.meet(0, 3), -1);
        DUE.is("the same", x.meet(0, 0), -1);
        DUE.is("where p sleeps, behind 60", changing(58).meet(0, 1), 60);
        DUE.is("where p sleeps, behind 61", changing(59).meet(0, 1), -1);
        for (int person : NO_PERSON) {
            DUE.is("meet(0, " + person + ")", x.meet(0, person), -1);
            DUE.is("meet(" + person + ", 0)", x.meet(person, 0), -1);
        }
        x.rouse(0);
        x.rouse(1);
        DUE.is("both up", x.meet(0, 1), -1);
        x.lie(0, 3);
        x.lie(1, 3);
        DUE.is("now", x.meet(0, 1), 0);
    }

    private static void crowd() {
        HammockNet x = Due.net(NET);
        DUE.is("of equal ones the first", x.crowd(), 0);
        x.rouse(0);
        x.lie(0, 5);
        DUE.is("two at f", x.crowd(), 5);
        x.rouse(1);
        x.lie(1, 1);
        DUE.is("two at b, two at f", x.crowd(), 1);
        x.rouse(2);
        x.rouse(1);
        DUE.is("f again", x.crowd(), 5);
        x.rouse(0);
        x.rouse(3);
        DUE.is("nobody lies", x.crowd(), -1);
    }

    private static void askingDoesNothing() {
        HammockNet x = Due.net(NET);
        x.hour();
        x.later(0, 60);
        x.falls(0);
        x.sleeps(0);
        x.still();
        x.meet(0, 1);
        DUE.is("the hour", x.count(3), 1);
        DUE.is("p at b", x.person(0, 1), 1);
        DUE.is("p shifted once", x.person(0, 2), 1);
        DUE.is("one thing to undo", x.count(9), 1);
    }
}
