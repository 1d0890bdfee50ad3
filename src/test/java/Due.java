import java.nio.charset.StandardCharsets;
import java.util.NoSuchElementException;

/** What the tests share: texts for the tape, nets, and answers against those that are due. */
final class Due {
    /** The words that are no NAMES. */
    static final String[] RESERVED = {"knot", "holds", "string", "against", "person", "will", "at", "lulls", "hour", "shift",
        "rouse", "lie", "tie", "plain", "firm", "slip", "dent", "not", "and", "or"};

    private final String name;
    private String sentence = "";
    private int answers;
    private int wrong;

    Due(String name) {
        this.name = name;
    }

    /** Feeds a text, eight signs to a number, filled with bytes that are left out. */
    static int feed(HammockNet net, String text) {
        byte[] signs = text.getBytes(StandardCharsets.ISO_8859_1);
        int length = net.count(10);
        for (int i = 0; i < signs.length; i += 24) {
            length = net.feed(eight(signs, i), eight(signs, i + 8), eight(signs, i + 16));
        }
        return length;
    }

    private static long eight(byte[] signs, int from) {
        long bytes = 0;
        for (int i = from; i < from + 8; i++) {
            bytes = bytes << 8 | (i < signs.length ? signs[i] & 255 : 0);
        }
        return bytes;
    }

    static int readNet(HammockNet net, String text) {
        feed(net, text);
        return net.net();
    }

    static int readRest(HammockNet net, String text) {
        feed(net, text);
        return net.rest();
    }

    /** A new object with a net that has no fault. */
    static HammockNet net(String text) {
        HammockNet net = new HammockNet();
        int fault = readNet(net, text);
        if (fault != 0) {
            throw new IllegalArgumentException("fault " + fault + " in " + text);
        }
        return net;
    }

    /** The FAULT of a kind at a place. */
    static int fault(int kind, int place) {
        return kind + 16 * place;
    }

    /** The sentence of the document that the next answers are about; it is told where one is not as due. */
    void about(String words) {
        sentence = " (" + words + ")";
    }

    void is(String call, long got, long due) {
        answers++;
        if (got != due) {
            wrong++;
            System.out.println(name + ": " + call + " answered " + got + ", due is " + due + sentence);
        }
    }

    void is(String call, boolean got, boolean due) {
        is(call, got ? 1 : 0, due ? 1 : 0);
    }

    /** All that an object tells of what is, by 73 calls that only look. */
    static String stateOf(HammockNet net) {
        StringBuilder text = new StringBuilder();
        for (int what = 0; what <= 10; what++) {
            text.append(" count").append(what).append('=').append(net.count(what));
        }
        for (int i = 0; i < 40; i++) {
            text.append(" knot").append(i / 5).append(i % 5).append('=').append(net.knot(i / 5, i % 5));
        }
        for (int i = 0; i < 16; i++) {
            text.append(" person").append(i / 4).append(i % 4).append('=').append(net.person(i / 4, i % 4));
        }
        for (int what = 0; what < 3; what++) {
            text.append(" judged").append(what).append('=').append(net.judged(what));
            text.append(" wills").append(what).append('=').append(net.wills(what));
        }
        return text.toString();
    }

    /** That all is as it was when stateOf told it. */
    void stays(String call, HammockNet net, String before) {
        String then = stateOf(net);
        answers++;
        if (!then.equals(before)) {
            wrong++;
            System.out.println(name + ": behind " + call + " it is" + then + ", it was" + before + sentence);
        }
    }

    /** So many KNOTS of a KIND, named a, b .. */
    static String knots(int many, String kind, int holds) {
        StringBuilder text = new StringBuilder();
        for (int i = 0; i < many; i++) {
            text.append("knot ").append((char) ('a' + i)).append(' ').append(kind).append(" holds ").append(holds).append(';');
        }
        return text.toString();
    }

    /** Pairs as "string a b;" of texts like "ab". */
    static String pairs(String word, String... names) {
        StringBuilder text = new StringBuilder();
        for (String each : names) {
            text.append(word).append(' ').append(each.charAt(0)).append(' ').append(each.charAt(1)).append(';');
        }
        return text.toString();
    }

    /** SEASONS by hand: draws and deeds one by one, by four calls an hour at most; answers how often one fell through. */
    static int played(HammockNet copy, int seed, int hours) {
        long g = seed;
        int falls = 0;
        int[] below = {copy.count(2), copy.count(0), 5};
        int[] drawn = new int[3];
        for (int hour = 0; hour < hours; hour++) {
            for (int i = 0; i < 3; i++) {
                g = (g * 1103515245L + 12345L) % 2147483648L;
                drawn[i] = (int) (g / 65536 % below[i]);
            }
            if (drawn[2] == 0) {
                copy.rouse(drawn[0]);
            } else if (drawn[2] == 1) {
                copy.lie(drawn[0], drawn[1]);
            } else if (drawn[2] < 4 && copy.shift(drawn[0], drawn[1]) >= 0 && copy.person(drawn[0], 1) < 0) {
                falls++;
            }
            falls += Integer.bitCount(copy.hour());
        }
        return falls;
    }

    void noSuchLull(int both, int loses, int gains, int what) {
        boolean thrown = false;
        try {
            new HammockNet().rests(both, loses, gains, what);
        } catch (NoSuchElementException e) {
            thrown = true;
        }
        is("rests(" + both + ", " + loses + ", " + gains + ", " + what + ") throws", thrown, true);
    }

    void end() {
        System.out.println(name + ": " + answers + " answers, " + wrong + " not as due");
        if (wrong != 0) {
            System.exit(1);
        }
    }
}
