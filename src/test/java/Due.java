import java.nio.charset.StandardCharsets;
import java.util.NoSuchElementException;

/** What the tests share: texts for the tape, nets, and answers against those that are due. */
final class Due {
    private final String name;
    private int answers;
    private int wrong;

    Due(String name) {
        this.name = name;
    }

    /** Feeds a text, eight signs to a number, filled with bytes that are left out. */
    static int feed(HammockNet net, String text) {
        byte[] signs = text.getBytes(StandardCharsets.ISO_8859_1);
        int length = net.count(10);
        for (int i = 0; i < signs.length; i += 24) {
            length = net.feed(eight(signs, i), eight(signs, i + 8), eight(signs, i + 16));
        }
        return length;
    }

    private static long eight(byte[] signs, int from) {
        long bytes = 0;
        for (int i = from; i < from + 8; i++) {
            bytes = bytes << 8 | (i < signs.length ? signs[i] & 255 : 0);
        }
        return bytes;
    }

    static int readNet(HammockNet net, String text) {
        feed(net, text);
        return net.net();
    }

    static int readRest(HammockNet net, String text) {
        feed(net, text);
        return net.rest();
    }

    /** A new object with a net that has no fault. */
    static HammockNet net(String text) {
        HammockNet net = new HammockNet();
        int fault = readNet(net, text);
        if (fault != 0) {
            throw new IllegalArgumentException("fault " + fault + " in " + text);
        }
        return net;
    }

    /** The FAULT of a kind at a place. */
    static int fault(int kind, int place) {
        return kind + 16 * place;
    }

    void is(String call, long got, long due) {
        answers++;
        if (got != due) {
            wrong++;
            System.out.println(name + ": " + call + " answered " + got + ", due is " + due);
        }
    }

    void is(String call, boolean got, boolean due) {
        is(call, got ? 1 : 0, due ? 1 : 0);
    }

    void noSuchLull(int both, int loses, int gains, int what) {
        boolean thrown = false;
        try {
            new HammockNet().rests(both, loses, gains, what);
        } catch (NoSuchElementException e) {
            thrown = true;
        }
        is("rests(" + both + ", " + loses + ", " + gains + ", " + what + ") throws", thrown, true);
    }

    void end() {
        System.out.println(name + ": " + answers + " answers, " + wrong + " not as due");
        if (wrong != 0) {
            System.exit(1);
        }
    }
}
