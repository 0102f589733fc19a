import java.lang.management.ManagementFactory;

/** What an object needs it makes with itself, at its first round() and its first image(k); no other call makes anything. */
final class RoomTest {
    private static final int NONE = OneEared.NONE;
    private static final long MOST_BYTES = 12_000;
    private static final long WALK_BYTES = 40_000;
    // the machine itself may make a little
    private static final long LITTLE = 256;

    private static final com.sun.management.ThreadMXBean THREADS =
            (com.sun.management.ThreadMXBean) ManagementFactory.getThreadMXBean();

    private final Due due = new Due();
    private int sum;

    public static void main(String[] args) {
        RoomTest test = new RoomTest();
        if (THREADS.isThreadAllocatedMemorySupported()) {
            // the first time classes are loaded, which makes much
            for (int time = 0; time < 3; time++) {
                test.measure(time == 2);
            }
        }
        test.due.close();
    }

    private static long made() {
        return THREADS.getCurrentThreadAllocatedBytes();
    }

    private void small(String what, long bytes, long most, boolean held) {
        if (held) {
            due.is(what + " makes at most " + most + " bytes, not " + bytes, bytes <= most, true);
        }
    }

    private void measure(boolean held) {
        long start = made();
        OneEared x = new OneEared();
        long self = made() - start;
        small("a new object", self, MOST_BYTES, held);
        tellAll(x);
        start = made();
        sum += x.round(0, 0, 3, 0);
        long walk = made() - start;
        small("the first round", walk, WALK_BYTES, held);
        for (int k = 0; k < 3; k++) {
            start = made();
            x.image(k);
            long image = made() - start;
            small("image " + k, image, MOST_BYTES, held);
        }
        for (int call = 0; call < 36; call++) {
            start = made();
            ask(x, call);
            long bytes = made() - start;
            small("call " + call, bytes, LITTLE, held);
        }
    }

    private static void tellAll(OneEared x) {
        Due.tell(x, Due.COURT, PromiseTest.COURT);
        Due.tell(x, Due.TRIAL, PromiseTest.TRIAL);
        Due.tell(x, Due.LAW, PromiseTest.LAW);
        Due.tell(x, Due.ROLL, PromiseTest.ROLL);
    }

    private void ask(OneEared x, int call) {
        if (call < 12) {
            askCourt(x, call);
        } else if (call < 28) {
            askTrial(x, call);
        } else {
            change(x, call);
        }
    }

    private void askCourt(OneEared x, int call) {
        sum += switch (call) {
            case 0 -> x.court(0, 5);
            case 1 -> x.wall(0, 5) ? 1 : 0;
            case 2 -> x.judge(0, 1, 15);
            case 3 -> x.pleader(0, 0, true);
            case 4 -> x.far(0, 8, 3);
            case 5 -> x.comes(0, 1, 8, 7);
            case 6 -> x.ears(0, 3, 2, 4);
            case 7 -> x.pulpit(0, 3, 2, true);
            case 8 -> x.near(0, 1, 0, 0);
            case 9 -> x.round(0, 1, 0, 11);
            case 10 -> x.echo(0, 0, 1, 3) + x.hush(0, 2, 3, 2);
            default -> x.areas(0, 2) + x.areas(0, NONE);
        };
    }

    private void askTrial(OneEared x, int call) {
        sum += switch (call) {
            case 12 -> x.deed(0, 1, 2) + x.rule(0, 1, 2) + x.claim(0, 1, 1);
            case 13 -> x.stop(0, 0);
            case 14 -> x.stands(0, 0, 5, 0, true);
            case 15 -> x.knows(0, 0, 6, 1) + x.knows(0, 0, 6, NONE) + x.knows(0, 0, 6, -2);
            case 16 -> x.heard(0, 0, 4);
            case 17 -> x.votes(0, 0, 0, 1) + x.votes(0, 0, 0, NONE);
            case 18 -> x.sway(0, 0, 0, 0) + x.sway(0, 0, 0, 1);
            case 19 -> x.sold(0, 0, 1, true) + x.sold(0, 0, NONE, false);
            case 20 -> x.seats(0, 0, 1) + x.seats(0, 0, NONE);
            case 21 -> x.lips(0, 0, 0, 3);
            case 22 -> x.drawn(0, 0, 77, 50, 0);
            case 23 -> x.bench(0, 0, 1) + x.bench(0, 0, NONE);
            case 24 -> x.idle(0, 0, 0);
            case 25 -> x.persuade(0, 0, 0, 0);
            case 26 -> x.mouth(0, 0, true);
            default -> x.rift(0, 0, 2);
        };
    }

    private void change(OneEared x, int call) {
        switch (call) {
            case 28 -> sum += x.feed(0x77616974, 0x3b202020, 0x77616974, 0x3b202020, 0x20202020);
            case 29 -> sum += x.end(16);
            case 30 -> sum += x.text(1, 0);
            case 31 -> sum += x.text(0, 0);
            case 32 -> sum += x.fault(1);
            case 33 -> sum += x.count(0);
            case 34 -> sum += x.image(1) ? 1 : 0;
            default -> sum += x.again(0) ? 1 : 0;
        }
    }
}
