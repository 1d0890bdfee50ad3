/** Promises 39 to 44: see, wills, ask, chance, rests, seasons. */
public final class WillsTest {
    private static final Due DUE = new Due("WillsTest");
    private static final int[] NO_KNOT = {-1, 4, 8, Integer.MAX_VALUE, Integer.MIN_VALUE};
    /** A chain of four by 1 an hour: one of will 1 sleeps at b, of 2 at c, of more at d. */
    private static final String CHAIN = "knot a plain holds 1; knot b plain holds 1; knot c plain holds 1;"
            + "knot d plain holds 1; string a b; string b c; string c d; person p will 40 at a; person q will 0 at b;";

    private WillsTest() {
    }

    public static void main(String[] args) {
        see();
        seeAnew();
        wills();
        willsOfFallen();
        willsAsStringsAre();
        ask();
        askBest();
        chance();
        chanceOfMore();
        rests();
        noRests();
        seasons();
        seasonsByDraws();
        seasonsWithoutPersons();
        DUE.end();
    }

    private static void see() {
        HammockNet x = Due.net(CHAIN);
        for (int k : NO_KNOT) {
            DUE.is("see(" + k + ", 0, 0, true)", x.see(k, 0, 0, true), false);
            DUE.is("see(0, " + k + ", 0, true)", x.see(0, k, 0, true), false);
        }
        for (int hours : new int[] {-1, 31, Integer.MAX_VALUE, Integer.MIN_VALUE}) {
            DUE.is("see(0, 0, " + hours + ", true)", x.see(0, 0, hours, true), false);
        }
        DUE.is("nothing is seen", x.count(8), 0);
        for (int i = 0; i < 8; i++) {
            DUE.is("see", x.see(0, 1, 1, true), true);
        }
        DUE.is("a ninth", x.see(0, 1, 1, true), false);
        DUE.is("eight", x.count(8), 8);
        DUE.is("a ninth that is wrong and from another", x.see(1, 1, 31, true), false);
        DUE.is("eight still", x.count(8), 8);
        DUE.is("seeing can't be undone", x.undo(), false);
        DUE.is("see in the 30th hour", x.see(1, 3, 30, true), true);
        DUE.is("no net", new HammockNet().see(0, 0, 0, true), false);
    }

    private static void seeAnew() {
        HammockNet x = Due.net(CHAIN);
        x.see(0, 3, 1, true);
        DUE.is("impossible", x.wills(0), 0);
        DUE.is("from b", x.see(1, 1, 0, true), true);
        DUE.is("one from b", x.count(8), 1);
        DUE.is("all from b", x.wills(0), 40);
        x.see(1, 2, 1, true);
        DUE.is("two from b", x.count(8), 2);
        for (int i = 2; i < 8; i++) {
            x.see(1, 2, 1, true);
        }
        DUE.is("anew when full", x.see(2, 2, 0, true), true);
        DUE.is("one from c", x.count(8), 1);
        DUE.is("back from b, anew", x.see(1, 2, 1, true), true);
        DUE.is("one", x.count(8), 1);
    }

    private static void wills(HammockNet x, String name, int many, int least, int greatest) {
        DUE.is("wills(0) " + name, x.wills(0), many);
        DUE.is("wills(1) " + name, x.wills(1), least);
        DUE.is("wills(2) " + name, x.wills(2), greatest);
    }

    private static void wills() {
        HammockNet x = Due.net(CHAIN);
        wills(x, "of nothing seen", 40, 1, 40);
        x.see(0, 1, 2, true);
        wills(x, "at b behind 2", 1, 1, 1);
        x = Due.net(CHAIN);
        x.see(0, 1, 2, false);
        wills(x, "not at b behind 2", 39, 2, 40);
        for (int what : new int[] {-1, 3, Integer.MAX_VALUE, Integer.MIN_VALUE}) {
            DUE.is("wills(" + what + ")", x.wills(what), -1);
        }
        x.see(0, 3, 30, false);
        wills(x, "not at d at last", 1, 2, 2);
        x.see(0, 0, 1, true);
        wills(x, "at a behind 1", 0, -1, -1);
        x = Due.net(CHAIN);
        x.see(0, 0, 0, false);
        wills(x, "not where they lay", 0, -1, -1);
        // p and q, who lie there, and their shifts do not count
        x = Due.net(CHAIN + "lulls others * 9 + many;");
        x.shift(0, 1);
        x.see(0, 1, 30, true);
        wills(x, "at b by others", 0, -1, -1);
        x = Due.net(CHAIN + "lulls 1 + many;");
        x.shift(0, 1);
        x.see(0, 1, 30, false);
        x.see(0, 3, 30, false);
        wills(x, "at c at last, by 1 and 2", 2, 2, 3);
        DUE.is("nothing is done", x.count(3), 0);
    }

    /** Who is UP lies at no KNOT. */
    private static void willsOfFallen() {
        HammockNet x = Due.net("knot a plain holds 1; knot b slip holds 9; string a b;");
        x.see(0, 1, 1, true);
        wills(x, "held at b", 10, 1, 10);
        x = Due.net("knot a plain holds 1; knot b slip holds 9; string a b;");
        x.see(0, 1, 1, false);
        wills(x, "fallen at b", 30, 11, 40);
        x.see(0, 0, 1, false);
        wills(x, "nor at a", 30, 11, 40);
        x = Due.net("knot a plain holds 1; knot b slip holds 9; string a b;");
        DUE.is("behind 1 hour", x.see(0, 0, 1, false), true);
        DUE.is("ask: held or up", x.ask(), 1);
    }

    private static void willsAsStringsAre() {
        HammockNet x = Due.net(CHAIN);
        x.see(0, 1, 2, true);
        x.tie(1, 2);
        wills(x, "no string from b", 40, 1, 40);
        x.undo();
        wills(x, "again", 1, 1, 1);
        x.hour();
        wills(x, "behind an hour", 1, 1, 1);
    }

    private static void ask() {
        HammockNet x = Due.net(CHAIN);
        DUE.is("nothing is seen", x.ask(), -1);
        x.see(0, 0, 0, true);
        // behind 2: 1 at b, 39 at c; behind 3: 1, 1, 38
        DUE.is("all 40", x.ask(), 3);
        x.see(0, 3, 30, true);
        DUE.is("3 to 40 are never parted", x.ask(), -1);
        x.see(0, 0, 1, true);
        DUE.is("no will is left", x.ask(), -1);
        x.see(1, 1, 0, true);
        // from b: behind 2 one of 1 sleeps at c
        DUE.is("all 40 from b", x.ask(), 2);
        DUE.is("all 40 from b again", x.ask(), 2);
        x = Due.net("knot a plain holds 1; knot b plain holds 1; knot c slip holds 12; string a b; string b c;"
                + "lulls 9 + 9 * (mind = 40);");
        x.see(0, 1, 1, true);
        x.see(0, 1, 2, false);
        x.see(0, 2, 2, false);
        // 31 to 40 are up behind 2
        wills(x, "fallen at c", 10, 31, 40);
        DUE.is("never parted", x.ask(), -1);
        x = Due.net("knot a plain holds 1; knot b plain holds 1; string a b; string b a;"
                + "lulls 9 * (mind < 39) + 9 * (mind = 39) * (many = 10);");
        x.see(0, 0, 6, true);
        x.see(0, 1, 7, true);
        wills(x, "still awake behind 7", 2, 39, 40);
        // the one of 39 sleeps at b behind 15
        DUE.is("39 and 40", x.ask(), 16);
        x = Due.net(CHAIN);
        x.see(0, 3, 30, false);
        DUE.is("1 and 2", x.ask(), 2);
        x = Due.net("knot a plain holds 1; knot b plain holds 1; string a b; string b a;");
        x.see(0, 1, 29, true);
        x.see(0, 0, 28, false);
        // 1, 3 .. 27: behind 14 seven are asleep at b, seven awake at a
        DUE.is("odd ones", x.ask(), 14);
    }

    private static void askBest() {
        HammockNet x = Due.net("knot a plain holds 1; knot b plain holds 1; string a b; string b a;");
        x.see(0, 0, 0, true);
        // behind 30: 2, 4 .. 28 and 30 to 40 at a, 25 of them; 26 or more together behind less
        DUE.is("ask", x.ask(), 30);
        x = Due.net("knot a plain holds 1; knot b plain holds 1; string a b; string b a; lulls 4;");
        x.see(0, 0, 0, true);
        // 1 to 4 sleep at b, 5 to 8 at a, 9 to 12 at b ..: 20 and 20 when all sleep
        DUE.is("ask by fours", x.ask(), 10);
    }

    private static void chance() {
        HammockNet x = Due.net("knot a plain holds 5; knot b plain holds 9; knot c slip holds 1; knot d slip holds 1;"
                + "string a b; string a c; string a d; string b a; person p will 20 at a; person q will 0 at a;"
                + "person r will 1 at b;");
        for (int odds = 0; odds <= 10; odds++) {
            DUE.is("chance(0, 1, " + odds + ")", x.chance(0, 1, odds), odds * 100000);
        }
        // behind b one comes back to a
        DUE.is("two hours", x.chance(0, 2, 3), 300000);
        DUE.is("three hours", x.chance(0, 3, 3), 510000);
        DUE.is("five hours", x.chance(0, 5, 1), 271000);
        DUE.is("six hours", x.chance(0, 6, 9), 999000);
        DUE.is("asleep", x.chance(1, 6, 10), 0);
        DUE.is("r sleeps at a", x.chance(2, 6, 10), 0);
        for (int hours : new int[] {-1, 0, 7, Integer.MAX_VALUE, Integer.MIN_VALUE}) {
            DUE.is("chance(0, " + hours + ", 5)", x.chance(0, hours, 5), -1);
        }
        for (int odds : new int[] {-1, 11, Integer.MAX_VALUE, Integer.MIN_VALUE}) {
            DUE.is("chance(0, 1, " + odds + ")", x.chance(0, 1, odds), -1);
        }
        for (int p : new int[] {-1, 3, 4, Integer.MAX_VALUE, Integer.MIN_VALUE}) {
            DUE.is("chance(" + p + ", 1, 5)", x.chance(p, 1, 5), -1);
        }
        DUE.is("nothing is done", x.count(3), 0);
        x.rouse(0);
        DUE.is("up", x.chance(0, 1, 5), -1);
    }

    private static void chanceOfMore() {
        // the least of equal ones, the first: c, which is no slip
        HammockNet x = Due.net("knot a plain holds 5; knot b plain holds 9; knot c plain holds 1; knot d slip holds 1;"
                + "string a b; string a c; string a d; person p will 20 at a;");
        DUE.is("the first of the least", x.chance(0, 1, 5), 0);
        // the others go by the most, and lull: q lies at b behind 1 hour, where p is held then
        String net = "knot a plain holds 5; knot b slip holds 9; knot c plain holds 1; string a b; string a c;"
                + "person q will 9 at a; person p will 17 at a; lulls others * 8;";
        x = Due.net(net);
        DUE.is("q is ahead of p", x.chance(1, 1, 4), 0);
        DUE.is("q alone is held", x.chance(0, 1, 4), 0);
        x.rouse(0);
        DUE.is("q is up", x.chance(1, 1, 4), 600000);
        // in each of six hours, one way of ten in the last alone
        x = Due.net("knot a plain holds 9; knot b plain holds 9; knot c slip holds 1; string a b; string b a; string a c;"
                + "person p will 20 at b; lulls 0;");
        DUE.is("at a behind 1, 3, 5", x.chance(0, 6, 1), 1000000 - 729000);
    }

    private static void lull(int both, int loses, int gains, int... due) {
        HammockNet x = new HammockNet();
        String call = "rests(" + both + ", " + loses + ", " + gains + ", ";
        DUE.is(call + "-1)", x.rests(both, loses, gains, -1), due.length);
        for (int i = 0; i < due.length; i++) {
            DUE.is(call + i + ")", x.rests(both, loses, gains, i), due[i]);
        }
        DUE.noSuchLull(both, loses, gains, due.length);
    }

    private static void rests() {
        lull(5, 2, 3, 0, 3);
        lull(3, 2, 5, 0);
        lull(3, 2, 3, 0, 3);
        lull(3, 0, 5, 0, 1, 2);
        lull(5, 0, 3, 0, 3);
        lull(5, 0, 5, 0, 1, 2, 3);
        lull(0, 0, 0, 0, 1, 2, 3);
        lull(9, 9, 9, 0, 3);
        lull(0, 9, 9, 0);
    }

    private static void noRests() {
        for (int wrong : new int[] {-1, 10, Integer.MAX_VALUE, Integer.MIN_VALUE}) {
            DUE.noSuchLull(wrong, 2, 3, -1);
            DUE.noSuchLull(5, wrong, 3, -1);
            DUE.noSuchLull(5, 2, wrong, -1);
        }
        for (int what : new int[] {-2, 2, 4, Integer.MAX_VALUE, Integer.MIN_VALUE}) {
            DUE.noSuchLull(5, 2, 3, what);
        }
    }

    private static void seasons() {
        HammockNet x = Due.net(CHAIN);
        for (int wrong : new int[] {-1, 10000, Integer.MAX_VALUE, Integer.MIN_VALUE}) {
            DUE.is("seasons(" + wrong + ", 1, 0)", x.seasons(wrong, 1, 0), -1);
        }
        for (int wrong : new int[] {-1, 0, 100, Integer.MAX_VALUE, Integer.MIN_VALUE}) {
            DUE.is("seasons(1, " + wrong + ", 0)", x.seasons(1, wrong, 0), -1);
        }
        for (int wrong : new int[] {-1, 3, Integer.MAX_VALUE, Integer.MIN_VALUE}) {
            DUE.is("seasons(1, 1, " + wrong + ")", x.seasons(1, 1, wrong), -1);
        }
        DUE.is("an edge", x.seasons(9999, 99, 0), 0);
        DUE.is("another edge", x.seasons(0, 1, 0), 0);
        DUE.is("all is as ahead: hour", x.count(3), 0);
        DUE.is("all is as ahead: undo", x.count(9), 0);
        DUE.is("all is as ahead: will", x.count(6), 40);
    }

    /** By a hand-made copy of the afternoon: draws and deeds one by one on another object. */
    private static void seasonsByDraws() {
        String net = "knot a plain holds 5; knot b slip holds 9; knot c slip holds 20; knot d plain holds 2; string a b;"
                + "string b a; string a c; string c d; string d a; string b d; person p will 25 at a;"
                + "person q will 40 at d; person r will 7 at c; lulls 1 + others;";
        for (int seed = 0; seed < 10000; seed += 77) {
            HammockNet x = Due.net(net);
            HammockNet copy = Due.net(net);
            x.hour();
            copy.hour();
            int hours = 1 + seed % 99;
            int falls = Due.played(copy, seed, hours);
            DUE.is("falls by " + seed, x.seasons(seed, hours, 0), falls);
            DUE.is("who lies by " + seed, x.seasons(seed, hours, 1), copy.count(4));
            DUE.is("will by " + seed, x.seasons(seed, hours, 2), copy.count(6));
        }
    }

    private static void seasonsWithoutPersons() {
        HammockNet x = Due.net("knot a plain holds 1; knot b plain holds 1; string a b;");
        for (int what = 0; what < 3; what++) {
            DUE.is("seasons of nobody", x.seasons(5, 9, what), 0);
            DUE.is("seasons of no net", new HammockNet().seasons(5, 9, what), 0);
        }
        x = Due.net("knot a plain holds 1; knot b slip holds 1; string a b; string b a; person p will 40 at a; lulls 0;");
        DUE.is("one falls", x.seasons(1, 1, 0), 1);
        boolean liesAtLast = false;
        for (int seed = 0; seed < 100; seed++) {
            liesAtLast |= x.seasons(seed, 5, 1) == 1;
        }
        DUE.is("one lies again by some seed", liesAtLast, true);
    }
}
