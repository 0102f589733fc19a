import java.nio.charset.StandardCharsets;
import java.util.Arrays;
import java.util.function.IntUnaryOperator;

/** What the tests share: texts put on the tape, and answers held against those that are due. */
final class Due {
    static final int COURT = 0;
    static final int TRIAL = 1;
    static final int LAW = 2;
    static final int ROLL = 3;

    private int wrong;
    private int held;

    void is(String call, long got, long want) {
        held++;
        if (got != want) {
            wrong++;
            System.out.println(call + " answered " + got + ", due is " + want);
        }
    }

    void is(String call, boolean got, boolean want) {
        is(call, got ? 1 : 0, want ? 1 : 0);
    }

    /**
     * Only least .. greatest are there: each number about them and far off is answered so, but for
     * those that mean something of their own; least and greatest are answered otherwise.
     */
    void range(String call, int least, int greatest, long want, IntUnaryOperator ask, int... meaning) {
        int[] odd = {Integer.MIN_VALUE, -65, -64, -3, -2, -1, least - 1, greatest + 1, greatest + 2, 32, 63, 64, 65, 256,
            1 << 16, Integer.MAX_VALUE - 1, Integer.MAX_VALUE};
        for (int n : odd) {
            if ((n < least || n > greatest) && Arrays.stream(meaning).noneMatch(m -> m == n)) {
                is(call + " with " + n, ask.applyAsInt(n), want);
            }
        }
        differs(call + " with " + least, ask.applyAsInt(least), want);
        differs(call + " with " + greatest, ask.applyAsInt(greatest), want);
    }

    private void differs(String call, long got, long other) {
        held++;
        if (got == other) {
            wrong++;
            System.out.println(call + " answered " + got + ", which is due only without it");
        }
    }

    /** Puts a text behind what the tape has. */
    static void put(OneEared x, byte[] bytes, int had) {
        for (int i = 0; i < bytes.length; i += 20) {
            x.feed(four(bytes, i), four(bytes, i + 4), four(bytes, i + 8), four(bytes, i + 12), four(bytes, i + 16));
        }
        x.end(had + bytes.length);
    }

    static void put(OneEared x, String text) {
        put(x, text.getBytes(StandardCharsets.ISO_8859_1), 0);
    }

    /** A new object that is told a COURT, a TRIAL, a LAW, a ROLL, or just the first of these. */
    static OneEared of(String... texts) {
        OneEared x = new OneEared();
        for (int sort = 0; sort < texts.length; sort++) {
            if (tell(x, sort, texts[sort]) != 0) {
                throw new IllegalStateException(texts[sort]);
            }
        }
        return x;
    }

    /** Tells a new object a text of that sort, with that FAULT at that place; none at NONE. */
    OneEared faultOf(int sort, String text, int fault, int place) {
        OneEared x = new OneEared();
        is("text '" + text + "'", tell(x, sort, text), fault == 0 ? 0 : OneEared.NONE);
        is("fault of '" + text + "'", x.fault(0), fault);
        is("place in '" + text + "'", x.fault(1), place);
        is("count with '" + text + "'", x.count(sort), fault == 0 ? 1 : 0);
        is("tape behind '" + text + "'", x.end(1), OneEared.NONE);
        return x;
    }

    /** Takes a text as a further one of its sort. */
    static int tell(OneEared x, int sort, String text) {
        return tell(x, sort, OneEared.NONE, text);
    }

    static int tell(OneEared x, int sort, int at, String text) {
        put(x, text);
        return x.text(sort, at);
    }

    static int four(byte[] bytes, int i) {
        int number = 0;
        for (int k = 0; k < 4; k++) {
            number = number << 8 | (i + k < bytes.length ? bytes[i + k] & 255 : 32);
        }
        return number;
    }

    /** Ends the test program, with exit code 1 if an answer was wrong. */
    void close() {
        System.out.println(held + " answers held, " + wrong + " not as due");
        if (wrong != 0) {
            System.exit(1);
        }
    }
}
