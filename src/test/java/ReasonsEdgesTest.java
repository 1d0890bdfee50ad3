/** The edges of promises 31 to 36: which reasons hold against reasons. */
public final class ReasonsEdgesTest {
    private static final Due DUE = new Due("ReasonsEdgesTest");
    private static final int[] NO_KNOT = {-1, -2, 8, 9, 31, 32, 33, 64, Integer.MAX_VALUE, Integer.MIN_VALUE};

    private ReasonsEdgesTest() {
    }

    public static void main(String[] args) {
        ofNothing();
        ofNoneAgainst();
        emptyOneStands();
        noneAgainstOneOfIt();
        againstEachAgainst();
        largestOfEqual();
        wholeOrNone();
        sureTillNoMore();
        opposedEdges();
        opposedOthers();
        defendsEdges();
        defendsOthers();
        aroundTheLast();
        byWhatIsTold();
        DUE.end();
    }

    private static HammockNet reasons(int knots, String... pairs) {
        return Due.net(Due.knots(knots, "plain", 1) + Due.pairs("against", pairs));
    }

    private static void check(HammockNet x, int stands, int largest, int whole, int sure) {
        DUE.is("stands()", x.stands(), stands);
        DUE.is("largest()", x.largest(), largest);
        DUE.is("whole()", x.whole(), whole);
        DUE.is("sure()", x.sure(), sure);
    }

    private static void ofNothing() {
        DUE.about("STANDS: how many sets do (the empty one, too).");
        check(new HammockNet(), 1, 0, 1, 0);
        check(Due.net("lulls 1;"), 1, 0, 1, 0);
    }

    private static void ofNoneAgainst() {
        DUE.about("A set of KNOTS STANDS if none of it is against one of it, and against each one that is against one of it "
                + "one of it is.");
        for (int knots = 0; knots <= 8; knots++) {
            int all = (1 << knots) - 1;
            check(reasons(knots), all + 1, all, 1, all);
        }
    }

    private static void emptyOneStands() {
        DUE.about("(the empty one, too)");
        // each is against the next one, and the last against the first: none but the empty one
        check(reasons(3, "ab", "bc", "ca"), 1, 0, 0, 0);
        check(reasons(5, "ab", "bc", "cd", "de", "ea"), 1, 0, 0, 0);
        check(reasons(7, "ab", "bc", "cd", "de", "ef", "fg", "ga"), 1, 0, 0, 0);
    }

    private static void noneAgainstOneOfIt() {
        DUE.about("none of it is against one of it");
        // {}, {a}, {b}
        check(reasons(2, "ab", "ba"), 3, 1, 2, 0);
        // {}, {a}, {b}, {c}
        check(reasons(3, "ab", "ba", "bc", "cb", "ca", "ac"), 4, 1, 3, 0);
        // {}, {a}
        check(reasons(2, "ab"), 2, 1, 1, 1);
    }

    private static void againstEachAgainst() {
        DUE.about("against each one that is against one of it one of it is");
        // {}, {a}, {a, c}; c alone does not stand against b
        check(reasons(3, "ab", "bc"), 3, 5, 1, 5);
        // {}, {a}, {d}, {a, d}, and c with both of them only
        check(reasons(5, "ab", "bc", "de", "ec"), 5, 13, 1, 13);
        // c stands by itself against b
        check(reasons(3, "ab", "bc", "cb"), 4, 5, 1, 5);
    }

    private static void largestOfEqual() {
        DUE.about("LARGEST: the largest; of equal ones the least (bits).");
        check(reasons(2, "ba", "ab"), 3, 1, 2, 0);
        // {}, {a, c}, {b, d}
        check(reasons(4, "ab", "bc", "cd", "da"), 3, 5, 2, 0);
        // h beside: {h}, {a, c, h}, {b, d, h} too
        check(reasons(8, "ab", "bc", "cd", "da", "he", "hf", "hg"), 6, 133, 2, 128);
        // {}, {a}, {b}, {c}, {b, c}: larger before less
        check(reasons(3, "ab", "ba", "ac", "ca"), 5, 6, 2, 0);
    }

    private static void wholeOrNone() {
        DUE.about("WHOLE: how many of them are such that against each KNOT that is not in it one of it is.");
        check(reasons(4, "ab", "bc", "ca"), 2, 8, 0, 8);
        // d answers a, so b holds, and c does not
        check(reasons(4, "ab", "bc", "ca", "da"), 3, 10, 1, 10);
        check(reasons(8, "ab", "ba", "cd", "dc", "ef", "fe", "gh", "hg"), 81, 85, 16, 0);
        check(reasons(1), 2, 1, 1, 1);
    }

    private static void sureTillNoMore() {
        DUE.about("SURE: .. beginning with none, by taking in each KNOT such that against each that is against it one of the "
                + "set is, till none comes in any more (bits).");
        check(reasons(8, "ab", "bc", "cd", "de", "ef", "fg", "gh"), 5, 85, 1, 85);
        check(reasons(8, "hg", "gf", "fe", "ed", "dc", "cb", "ba"), 5, 170, 1, 170);
        check(reasons(7, "ab", "bc", "cd", "de", "ef", "fg"), 5, 85, 1, 85);
        // two that are against each other come in by no way, nor what they are against
        check(reasons(4, "ab", "ba", "ac", "bc", "cd"), 5, 9, 2, 0);
        check(reasons(3, "ab", "ba"), 6, 5, 2, 4);
    }

    private static void opposedEdges() {
        DUE.about("OPPOSED of a KNOT: those that are against it (bits).");
        HammockNet x = reasons(8, "ah", "bh", "ch", "dh", "eh", "fh", "gh", "ha", "hb", "ab");
        DUE.is("opposed(7)", x.opposed(7), 127);
        DUE.is("opposed(0)", x.opposed(0), 128);
        DUE.is("opposed(1)", x.opposed(1), 129);
        DUE.is("opposed(6)", x.opposed(6), 0);
    }

    private static void opposedOthers() {
        DUE.about("opposed(int knot): .. NONE: others");
        HammockNet x = reasons(8, "ah");
        for (int knot : NO_KNOT) {
            DUE.is("opposed(" + knot + ")", x.opposed(knot), -1);
        }
        DUE.is("opposed behind the last", reasons(2, "ab").opposed(2), -1);
        DUE.is("opposed of no net", new HammockNet().opposed(0), -1);
    }

    private static void defendsEdges() {
        DUE.about("DEFENDS of a KNOT: those that are against one that is against it (bits).");
        HammockNet x = reasons(8, "ab", "ba", "bh", "ch", "gc", "ac", "hc");
        DUE.is("a by itself", x.defends(0), 1);
        DUE.is("b by itself", x.defends(1), 2);
        DUE.is("h by a, g and itself", x.defends(7), 193);
        DUE.is("c, by b alone, that is against a, and by b and c against h", x.defends(2), 6);
        DUE.is("g, against which none is", x.defends(6), 0);
    }

    private static void defendsOthers() {
        DUE.about("defends(int knot): .. NONE: others");
        HammockNet x = reasons(8, "ah");
        for (int knot : NO_KNOT) {
            DUE.is("defends(" + knot + ")", x.defends(knot), -1);
        }
        DUE.is("defends behind the last", reasons(2, "ab").defends(2), -1);
        DUE.is("defends of no net", new HammockNet().defends(0), -1);
    }

    private static void aroundTheLast() {
        DUE.about("knot: 8 at most .. against: 12 at most");
        // h against all, and all but a against h; {}, {a} no, {h}, {b..g} no: a is not answered
        HammockNet x = reasons(8, "ha", "hb", "hc", "hd", "he", "hf", "hg");
        check(x, 2, 128, 1, 128);
        x = reasons(8, "ah", "bh", "ch", "dh", "eh", "fh", "gh");
        check(x, 128, 127, 1, 127);
        x = reasons(8, "ha", "ah", "hb", "bh", "hc", "ch", "hd", "dh", "he", "eh", "hf", "fh");
        // g is free: with h, or with any of the six
        check(x, 2 + 2 * 64, 127, 2, 64);
    }

    private static void byWhatIsTold() {
        DUE.about("A KNOT is AGAINST another one as told.");
        HammockNet x = reasons(3, "ab", "bc");
        x.tie(2, 0);
        x.hour();
        x.tie(0, 1);
        check(x, 3, 5, 1, 5);
        String before = Due.stateOf(x);
        x.stands();
        x.largest();
        x.whole();
        x.sure();
        x.opposed(0);
        x.defends(2);
        DUE.stays("questions", x, before);
    }
}
