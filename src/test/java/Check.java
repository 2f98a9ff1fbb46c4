import java.nio.charset.StandardCharsets;

/** Counts right and wrong answers, and puts texts on a tape. */
final class Check {
    private int right;
    private int wrong;

    void eq(String what, long got, long want) {
        if (got == want) {
            right++;
        } else {
            wrong++;
            System.out.println(what + " answered " + got + ", due is " + want);
        }
    }

    void yes(String what, boolean got) {
        eq(what, got ? 1 : 0, 1);
    }

    void no(String what, boolean got) {
        eq(what, got ? 1 : 0, 0);
    }

    /** Feeds a text, the last twenty filled up with blanks and cut to its length. */
    static void tape(DewMarket m, String text) {
        byte[] bytes = text.getBytes(StandardCharsets.ISO_8859_1);
        for (int i = 0; i < bytes.length; i += 20) {
            m.feed(four(bytes, i), four(bytes, i + 4), four(bytes, i + 8), four(bytes, i + 12), four(bytes, i + 16));
        }
        m.end(bytes.length);
    }

    static int four(byte[] bytes, int from) {
        int v = 0;
        for (int i = from; i < from + 4; i++) {
            v = v << 8 | (i < bytes.length ? bytes[i] & 255 : ' ');
        }
        return v;
    }

    static int tell(DewMarket m, int k, String text) {
        tape(m, text);
        return m.text(k);
    }

    /** A text that is refused, with its FAULT and the place of it. */
    void faulty(DewMarket m, int k, String text, int fault, int place) {
        eq("text " + k + " '" + text + "'", tell(m, k, text), DewMarket.NONE);
        eq("fault of '" + text + "'", m.fault(0), fault);
        eq("place of the fault of '" + text + "'", m.fault(1), place);
    }

    int count() {
        return right + wrong;
    }

    void close(String name) {
        System.out.println(name + ": " + right + " answers right, " + wrong + " wrong");
        if (wrong != 0) {
            System.exit(1);
        }
    }
}
