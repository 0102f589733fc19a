import java.nio.charset.StandardCharsets;

/** What the tests share: texts put on the tape, and answers held against those that are due. */
final class Due {
    static final int COURT = 0;
    static final int TRIAL = 1;
    static final int LAW = 2;
    static final int ROLL = 3;

    private int wrong;
    private int held;

    void is(String call, long got, long want) {
        held++;
        if (got != want) {
            wrong++;
            System.out.println(call + " answered " + got + ", due is " + want);
        }
    }

    void is(String call, boolean got, boolean want) {
        is(call, got ? 1 : 0, want ? 1 : 0);
    }

    /** Puts a text behind what the tape has. */
    static void put(OneEared x, byte[] bytes, int had) {
        for (int i = 0; i < bytes.length; i += 20) {
            x.feed(four(bytes, i), four(bytes, i + 4), four(bytes, i + 8), four(bytes, i + 12), four(bytes, i + 16));
        }
        x.end(had + bytes.length);
    }

    /** Takes a text as a further one of its sort. */
    static int tell(OneEared x, int sort, String text) {
        return tell(x, sort, OneEared.NONE, text);
    }

    static int tell(OneEared x, int sort, int at, String text) {
        put(x, text.getBytes(StandardCharsets.ISO_8859_1), 0);
        return x.text(sort, at);
    }

    static int four(byte[] bytes, int i) {
        int number = 0;
        for (int k = 0; k < 4; k++) {
            number = number << 8 | (i + k < bytes.length ? bytes[i + k] & 255 : 32);
        }
        return number;
    }

    /** Ends the test program, with exit code 1 if an answer was wrong. */
    void close() {
        System.out.println(held + " answers held, " + wrong + " not as due");
        if (wrong != 0) {
            System.exit(1);
        }
    }
}
