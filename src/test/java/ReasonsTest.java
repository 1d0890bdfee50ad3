/** Promises 31 to 36: stands, largest, whole, sure, opposed, defends. */
public final class ReasonsTest {
    private static final Due DUE = new Due("ReasonsTest");

    private ReasonsTest() {
    }

    public static void main(String[] args) {
        sets();
        equalOnes();
        bigRings();
        opposedAndDefends();
        stringsDoNotMatter();
        DUE.end();
    }

    /** So many KNOTS a, b .. and pairs, as "ab" for against a b. */
    private static HammockNet reasons(int knots, String... pairs) {
        return Due.net(Due.knots(knots, "plain", 1) + Due.pairs("against", pairs));
    }

    private static void check(String name, HammockNet x, int stands, int largest, int whole, int sure) {
        DUE.is("stands of " + name, x.stands(), stands);
        DUE.is("largest of " + name, x.largest(), largest);
        DUE.is("whole of " + name, x.whole(), whole);
        DUE.is("sure of " + name, x.sure(), sure);
    }

    private static void sets() {
        check("nothing", new HammockNet(), 1, 0, 1, 0);
        check("one", reasons(1), 2, 1, 1, 1);
        check("three free ones", reasons(3), 8, 7, 1, 7);
        // {}, {a}
        check("a against b", reasons(2, "ab"), 2, 1, 1, 1);
        // {}, {b}
        check("b against a", reasons(2, "ba"), 2, 2, 1, 2);
        // {}, {a}, {b}
        check("a and b", reasons(2, "ab", "ba"), 3, 1, 2, 0);
        // {} alone
        check("a ring of three", reasons(3, "ab", "bc", "ca"), 1, 0, 0, 0);
        // {}, {a}, {a, c}
        check("a chain", reasons(3, "ab", "bc"), 3, 5, 1, 5);
        // {}, {a}, {b}, {a, c}, {b, d}
        check("a and b, b against c, c against d", reasons(4, "ab", "ba", "bc", "cd"), 5, 5, 2, 0);
        // a free one beside a ring of three: {}, {d}
        check("a free one beside a ring", reasons(4, "ab", "bc", "ca"), 2, 8, 0, 8);
    }

    private static void equalOnes() {
        // {}, {a, c}, {b, d}
        HammockNet x = reasons(4, "ab", "bc", "cd", "da");
        check("a ring of four", x, 3, 5, 2, 0);
        x = reasons(4, "ba", "cb", "dc", "ad");
        check("a ring of four, turned", x, 3, 5, 2, 0);
        // {}, {a}, {b}, {c}, {a, c}, {b, c}
        check("of equal ones the least", reasons(3, "ab", "ba"), 6, 5, 2, 4);
        // one more beats the least
        check("larger before less", reasons(3, "ab", "ba", "ac", "ca"), 5, 6, 2, 0);
    }

    private static void bigRings() {
        check("a chain of eight", reasons(8, "ab", "bc", "cd", "de", "ef", "fg", "gh"), 5, 85, 1, 85);
        check("a ring of eight", reasons(8, "ab", "bc", "cd", "de", "ef", "fg", "gh", "ha"), 3, 85, 2, 0);
        check("eight free ones", reasons(8), 256, 255, 1, 255);
        check("turned chain of eight", reasons(8, "ba", "cb", "dc", "ed", "fe", "gf", "hg"), 5, 170, 1, 170);
    }

    private static void opposedAndDefends() {
        HammockNet x = reasons(5, "ab", "ba", "cd", "de", "ce");
        int[] opposed = {2, 1, 0, 4, 12};
        int[] defends = {1, 2, 0, 0, 4};
        for (int k = 0; k < 5; k++) {
            DUE.is("opposed(" + k + ")", x.opposed(k), opposed[k]);
            DUE.is("defends(" + k + ")", x.defends(k), defends[k]);
        }
        for (int k : new int[] {-1, 5, 8, Integer.MAX_VALUE, Integer.MIN_VALUE}) {
            DUE.is("opposed(" + k + ")", x.opposed(k), -1);
            DUE.is("defends(" + k + ")", x.defends(k), -1);
        }
        x = reasons(8, "ah", "bh", "gh", "fa", "eb", "ef");
        DUE.is("three are against h", x.opposed(7), 67);
        DUE.is("two defend h", x.defends(7), 48);
    }

    private static void stringsDoNotMatter() {
        HammockNet x = reasons(3, "ab");
        x.tie(1, 2);
        x.tie(0, 1);
        check("a against b, strings tied", x, 4, 5, 1, 5);
        DUE.is("a has none against it", x.opposed(0), 0);
    }
}
