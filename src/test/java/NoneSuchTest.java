/**
 * For each call and each of its numbers: what is answered when there is none such, or another
 * hour, LOUD, what, k, VERDICT or sort; and that the least and the greatest are still there.
 */
final class NoneSuchTest {
    private static final int NONE = OneEared.NONE;
    private static final int NO_SUCH = -2;

    // as in PromiseTest, but for a say behind the deed that can't be: deeds 0, 1 and 4 are said
    private static final String TRIAL = PromiseTest.TRIAL + "say 1 3 0;";

    private final Due due = new Due();

    public static void main(String[] args) {
        NoneSuchTest test = new NoneSuchTest();
        test.tapeAndTexts();
        test.courts();
        test.sounds();
        test.wholeCourts();
        test.lists();
        test.states();
        test.laws();
        test.ears();
        test.rollsAndThunder();
        test.lastOnes();
        test.secondOnes();
        test.fullRanges();
        test.due.close();
    }

    private static OneEared sample() {
        return Due.of(PromiseTest.COURT, TRIAL, PromiseTest.LAW, PromiseTest.ROLL);
    }

    // promises 3, 4, 5, 37, 38 and 39
    private void tapeAndTexts() {
        OneEared x = sample();
        due.is("feed", x.feed(0, 0, 0, 0, 0), 20);
        // the numbers are asked from far off to 0, so the tape is as long as it was till then
        due.range("end", 0, 20, NONE, n -> n == 0 ? x.end(20) : x.end(n));
        due.range("text, sort", 0, 3, NO_SUCH, sort -> x.text(sort, 0));
        for (int sort = 0; sort < 4; sort++) {
            int s = sort;
            due.range("text, in the place of one, sort " + sort, 0, 0, NO_SUCH, at -> x.text(s, at), NONE);
        }
        due.range("count", 0, 3, NO_SUCH, x::count);
        due.is("a fault", Due.tell(x, Due.COURT, 0, "wall 99;"), NONE);
        due.range("fault", 0, 1, NONE, x::fault);
        OneEared y = sample();
        due.range("image", 0, 2, 0, k -> y.image(k) ? 1 : 0);
        due.range("again", 0, 2, 0, k -> y.again(k) ? 1 : 0, 1);
        due.is("again 1, of which there is no image", y.again(1), false);
    }

    // promises 6 to 9
    private void courts() {
        OneEared x = sample();
        due.range("court", 0, 0, NONE, c -> x.court(c, 0));
        due.range("court, what", 0, 5, NONE, what -> x.court(0, what));
        due.range("wall", 0, 0, 0, c -> x.wall(c, 5) ? 1 : 0);
        due.range("wall, field", 5, 5, 0, f -> x.wall(0, f) ? 1 : 0);
        due.range("judge in a court", 0, 0, NONE, c -> x.judge(c, 0, 3));
        due.range("judge", 0, 1, NONE, j -> x.judge(0, j, 3));
        due.range("judge, what", 0, 4, NONE, what -> x.judge(0, 0, what), 32, 63, 64, 65);
        due.range("judge, hour", 10, 109, NONE, what -> x.judge(0, 1, what));
        for (int what = 5; what < 10; what++) {
            due.is("judge, what " + what, x.judge(0, 1, what), NONE);
        }
        OneEared y = sample();
        due.range("pleader in a court", 0, 0, NO_SUCH, c -> y.pleader(c, 0, false));
        due.range("pleader", 0, 1, NO_SUCH, p -> y.pleader(0, p, false));
        // pleader 1 has no twin: NONE, not -2
        due.range("twin in a court", 0, 0, NO_SUCH, c -> y.pleader(c, 1, true));
        due.range("twin", 0, 1, NO_SUCH, p -> y.pleader(0, p, true));
    }

    // promises 10 to 14
    private void sounds() {
        OneEared x = sample();
        due.range("far in a court", 0, 0, NONE, c -> x.far(c, 0, 0));
        due.range("far, from", 0, 11, NONE, a -> x.far(0, a, 11));
        due.range("far, to", 0, 11, NONE, b -> x.far(0, 11, b));
        due.range("comes in a court", 0, 0, NONE, c -> x.comes(c, 0, 6, 0));
        due.range("comes to a judge", 0, 1, NONE, j -> x.comes(0, j, 6, 0));
        due.range("comes from a field", 0, 11, NONE, f -> x.comes(0, 1, f, 0));
        due.range("comes at an hour", 0, 99, NONE, hour -> x.comes(0, 1, 6, hour));
        due.is("comes from a wall", x.comes(0, 1, 5, 0), NONE);
        OneEared y = sample();
        due.range("ears in a court", 0, 0, NONE, c -> y.ears(c, 0, 0, 0));
        due.range("ears, field", 0, 11, NONE, f -> y.ears(0, f, 0, 0));
        due.range("ears, hour", 0, 99, NONE, hour -> y.ears(0, 0, hour, 0));
        due.range("ears, loud", 0, 9, NONE, loud -> y.ears(0, 0, 0, loud));
        due.is("ears of a wall", y.ears(0, 5, 0, 0), NONE);
        for (boolean many : new boolean[] {false, true}) {
            due.range("pulpit in a court", 0, 0, NONE, c -> y.pulpit(c, 0, 0, many));
            due.range("pulpit, hour", 0, 99, NONE, hour -> y.pulpit(0, hour, 0, many));
            due.range("pulpit, loud", 0, 9, NONE, loud -> y.pulpit(0, 0, loud, many));
        }
        OneEared z = sample();
        due.range("near in a court", 0, 0, NONE, c -> z.near(c, 0, 0, 0));
        due.range("near, judge", 0, 1, NONE, j -> z.near(0, j, 0, 0));
        due.range("near, pleader", 0, 1, NONE, p -> z.near(0, 0, p, 0));
        due.range("near, loud", 0, 9, NONE, loud -> z.near(0, 0, 0, loud));
    }

    // promises 15, 16, 30 and 34
    private void wholeCourts() {
        OneEared x = sample();
        due.range("round in a court", 0, 0, NONE, c -> x.round(c, 1, 0, 0));
        due.range("round, pleader", 0, 1, NONE, p -> x.round(0, p, 0, 0));
        due.range("round, loud", 0, 9, NONE, loud -> x.round(0, 1, loud, 0));
        due.range("round, what", 0, 0, NONE, what -> x.round(0, 1, 0, what));
        due.range("round, what, on the way", 10, 12, NONE, what -> x.round(0, 1, 0, what));
        for (int what = 1; what < 10; what++) {
            due.is("round, what " + what, x.round(0, 1, 0, what), NONE);
        }
        OneEared y = sample();
        due.range("echo in a court", 0, 0, NONE, c -> y.echo(c, 0, 1, 0));
        due.range("echo, a", 0, 0, NONE, a -> y.echo(0, a, 1, 0));
        due.range("echo, b", 1, 1, NONE, b -> y.echo(0, 0, b, 0), NONE);
        due.range("echo, loud", 0, 9, NONE, loud -> y.echo(0, 0, 1, loud));
        due.range("echo of one, in a court", 0, 0, NONE, c -> y.echo(c, 0, NONE, 0));
        due.range("echo of one, a", 0, 1, NONE, a -> y.echo(0, a, NONE, 0), NONE);
        due.range("echo of one, loud", 0, 9, NONE, loud -> y.echo(0, 0, NONE, loud));
        due.range("blind in a court", 0, 0, NONE, c -> y.echo(c, NONE, NONE, 0));
        due.range("blind, loud", 0, 9, NONE, loud -> y.echo(0, NONE, NONE, loud));
        OneEared z = sample();
        due.range("hush in a court", 0, 0, NONE, c -> z.hush(c, 0, 0, 1));
        due.range("hush, field", 0, 11, NONE, f -> z.hush(0, f, 0, 1));
        due.range("hush, hour", 0, 99, NONE, hour -> z.hush(0, 0, hour, 1));
        due.range("hush, n, of two judges", 1, 2, NONE, n -> z.hush(0, 7, 0, n));
        due.is("hush of a wall", z.hush(0, 5, 0, 1), NONE);
        due.range("areas of a court", 0, 0, NONE, c -> z.areas(c, NONE));
        due.range("carve in a court", 0, 0, NONE, c -> z.areas(c, 0));
        due.range("carve, loud", 0, 9, NONE, loud -> z.areas(0, loud), NONE);
    }

    // promises 17, 22 and 27: at k NONE there is no what but 0
    private void lists() {
        OneEared x = sample();
        due.range("deeds of a trial", 0, 0, NO_SUCH, t -> x.deed(t, NONE, 0));
        due.range("deeds, what", 0, 0, NO_SUCH, what -> x.deed(0, NONE, what));
        due.range("deed of a trial", 0, 0, NO_SUCH, t -> x.deed(t, 0, 0));
        due.range("deed", 0, 7, NO_SUCH, k -> x.deed(0, k, 0), NONE);
        for (int k = 0; k < 8; k += 3) {
            // a go has two numbers, a wait has none, but the what is there: NONE, not -2
            int deed = k == 6 ? 2 : k;
            due.range("deed, what", 0, 3, NO_SUCH, what -> x.deed(0, deed, what));
        }
        OneEared y = sample();
        due.range("rules of a law", 0, 0, NO_SUCH, l -> y.rule(l, NONE, 0));
        due.range("rules, what", 0, 0, NO_SUCH, what -> y.rule(0, NONE, what));
        due.range("rule of a law", 0, 0, NO_SUCH, l -> y.rule(l, 0, 0));
        due.range("rule", 0, 2, NO_SUCH, k -> y.rule(0, k, 0), NONE);
        due.range("rule, what", 0, 2, NO_SUCH, what -> y.rule(0, 2, what));
        due.range("claims of a roll", 0, 0, NO_SUCH, r -> y.claim(r, NONE, 0));
        due.range("claims, what", 0, 0, NO_SUCH, what -> y.claim(0, NONE, what));
        due.range("claim of a roll", 0, 0, NO_SUCH, r -> y.claim(r, 0, 0));
        due.range("claim", 0, 3, NO_SUCH, k -> y.claim(0, k, 0), NONE);
        due.range("claim, what", 0, 1, NO_SUCH, what -> y.claim(0, 3, what));
    }

    // promises 18 to 21
    private void states() {
        OneEared x = sample();
        due.range("stop in a court", 0, 0, NONE, c -> x.stop(c, 0));
        due.range("stop of a trial", 0, 0, NONE, t -> x.stop(0, t));
        for (boolean twin : new boolean[] {false, true}) {
            due.range("stands in a court", 0, 0, NO_SUCH, c -> x.stands(c, 0, 0, 1, twin));
            due.range("stands in a trial", 0, 0, NO_SUCH, t -> x.stands(0, t, 0, 1, twin));
            due.range("stands in a state", 0, 6, NO_SUCH, n -> x.stands(0, 0, n, 1, twin));
            due.range("stands, pleader", 0, 1, NO_SUCH, p -> x.stands(0, 0, 6, p, twin));
        }
        OneEared y = sample();
        for (int who : new int[] {0, NONE, -2}) {
            due.range("knows in a court, " + who, 0, 0, NONE, c -> y.knows(c, 0, 1, who));
            due.range("knows in a trial, " + who, 0, 0, NONE, t -> y.knows(0, t, 1, who));
            due.range("knows in a state, " + who, 0, 6, NONE, n -> y.knows(0, 0, n, who));
        }
        due.range("knows, judge", 0, 1, NONE, j -> y.knows(0, 0, 1, j), NONE, -2);
        OneEared z = sample();
        due.range("heard in a court", 0, 0, NONE, c -> z.heard(c, 0, 0));
        due.range("heard in a trial", 0, 0, NONE, t -> z.heard(0, t, 0));
        due.range("heard", 0, 1, NONE, k -> z.heard(0, 0, k));
        due.range("heard, the last say", 4, 4, NONE, k -> k == 0 || k == 1 ? NONE : z.heard(0, 0, k));
        due.is("heard, a say behind STOP", z.heard(0, 0, 7), NONE);
    }

    // promises 23, 24, 32 and 33
    private void laws() {
        OneEared x = sample();
        due.range("votes in a court", 0, 0, NO_SUCH, c -> x.votes(c, 0, 0, 0));
        due.range("votes in a trial", 0, 0, NO_SUCH, t -> x.votes(0, t, 0, 0));
        due.range("votes by a law", 0, 0, NO_SUCH, l -> x.votes(0, 0, l, 0));
        due.range("votes, judge", 0, 1, NO_SUCH, j -> x.votes(0, 0, 0, j), NONE);
        due.range("verdict in a court", 0, 0, NO_SUCH, c -> x.votes(c, 0, 0, NONE));
        due.range("verdict in a trial", 0, 0, NO_SUCH, t -> x.votes(0, t, 0, NONE));
        due.range("verdict by a law", 0, 0, NO_SUCH, l -> x.votes(0, 0, l, NONE));
        OneEared y = sample();
        for (int what = 0; what < 2; what++) {
            int w = what;
            due.range("sway in a court", 0, 0, NONE, c -> y.sway(c, 0, 0, w));
            due.range("sway in a trial", 0, 0, NONE, t -> y.sway(0, t, 0, w));
            due.range("sway by a law", 0, 0, NONE, l -> y.sway(0, 0, l, w));
        }
        due.range("sway, what", 0, 1, NONE, what -> y.sway(0, 0, 0, what));
        due.range("idle in a court", 0, 0, NONE, c -> y.idle(c, 0, 0));
        due.range("idle in a trial", 0, 0, NONE, t -> y.idle(0, t, 0));
        due.range("idle by a law", 0, 0, NONE, l -> y.idle(0, 0, l));
        OneEared z = sample();
        Due.tell(z, Due.LAW, 0, "yes 1 2;no 2 1;");
        due.range("persuade in a court", 0, 0, NONE, c -> z.persuade(c, 0, 0, 1));
        due.range("persuade in a trial", 0, 0, NONE, t -> z.persuade(0, t, 0, 1));
        due.range("persuade by a law", 0, 0, NONE, l -> z.persuade(0, 0, l, 1));
        due.range("persuade to a verdict", 0, 1, NONE, verdict -> z.persuade(0, 0, 0, verdict));
    }

    // promises 25, 26 and 31
    private void ears() {
        OneEared x = sample();
        for (boolean third : new boolean[] {false, true}) {
            due.range("sold in a court", 0, 0, NONE, c -> x.sold(c, 0, 0, third));
            due.range("sold in a trial", 0, 0, NONE, t -> x.sold(0, t, 0, third));
            due.range("sold, judge", 0, 1, NONE, j -> x.sold(0, 0, j, third), NONE);
            due.range("dearest in a court", 0, 0, NONE, c -> x.sold(c, 0, NONE, third));
            due.range("dearest in a trial", 0, 0, NONE, t -> x.sold(0, t, NONE, third));
        }
        OneEared y = sample();
        for (int who : new int[] {0, NONE}) {
            due.range("seats in a court", 0, 0, NONE, c -> y.seats(c, 0, who));
            due.range("seats in a trial", 0, 0, NONE, t -> y.seats(0, t, who));
            due.range("bench in a court", 0, 0, NONE, c -> y.bench(c, 0, who));
            due.range("bench in a trial", 0, 0, NONE, t -> y.bench(0, t, who));
        }
        due.range("seats, judge", 0, 1, NONE, j -> y.seats(0, 0, j), NONE);
        due.range("bench, judge", 0, 1, NONE, j -> y.bench(0, 0, j), NONE);
    }

    // promises 28 and 29
    private void rollsAndThunder() {
        OneEared x = sample();
        for (int what = 0; what < 4; what++) {
            int w = what;
            due.range("lips in a court", 0, 0, NO_SUCH, c -> x.lips(c, 0, 0, w));
            due.range("lips in a trial", 0, 0, NO_SUCH, t -> x.lips(0, t, 0, w));
        }
        OneEared y = sample();
        due.range("lips of a roll", 0, 0, NO_SUCH, r -> y.lips(0, 0, r, 0));
        due.range("lips, what", 0, 3, NO_SUCH, what -> y.lips(0, 0, 0, what));
        OneEared z = sample();
        for (int what : new int[] {0, 1, 10, 11}) {
            due.range("drawn in a court", 0, 0, NONE, c -> z.drawn(c, 0, 1, 50, what));
            due.range("drawn in a trial", 0, 0, NONE, t -> z.drawn(0, t, 1, 50, what));
            due.range("drawn, k", 0, 100, NONE, k -> z.drawn(0, 0, 1, k, what), 32, 63, 64, 65);
        }
        due.range("drawn, what", 0, 1, NONE, what -> z.drawn(0, 0, 1, 50, what));
        due.range("drawn, judge", 10, 11, NONE, what -> what == 0 || what == 1 ? NONE : z.drawn(0, 0, 1, 50, what));
        for (int what = 2; what < 10; what++) {
            due.is("drawn, what " + what, z.drawn(0, 0, 1, 50, what), NONE);
        }
    }

    // promises 35 and 36
    private void lastOnes() {
        OneEared x = sample();
        for (boolean many : new boolean[] {false, true}) {
            due.range("mouth in a court", 0, 0, NONE, c -> x.mouth(c, 0, many));
            due.range("mouth in a trial", 0, 0, NONE, t -> x.mouth(0, t, many));
        }
        for (int what = 0; what < 3; what++) {
            int w = what;
            due.range("rift in a court", 0, 0, NONE, c -> x.rift(c, 0, w));
            due.range("rift in a trial", 0, 0, NONE, t -> x.rift(0, t, w));
        }
        due.range("rift, what", 0, 2, NONE, what -> x.rift(0, 0, what));
    }

    // all promises with a COURT, TRIAL, LAW or ROLL: of two each both are there, and no third
    private void secondOnes() {
        OneEared x = sample();
        Due.tell(x, Due.COURT, PromiseTest.COURT);
        Due.tell(x, Due.TRIAL, TRIAL);
        Due.tell(x, Due.LAW, PromiseTest.LAW);
        Due.tell(x, Due.ROLL, PromiseTest.ROLL);
        due.range("text, in the place of one of two", 0, 1, NO_SUCH, at -> Due.tell(x, Due.LAW, at, PromiseTest.LAW));
        due.range("court of two", 0, 1, NONE, c -> x.court(c, 0));
        due.range("wall in one of two", 0, 1, 0, c -> x.wall(c, 5) ? 1 : 0);
        due.range("stop in one of two", 0, 1, NONE, c -> x.stop(c, 1));
        due.range("stop of one of two", 0, 1, NONE, t -> x.stop(1, t));
        due.range("deed of one of two", 0, 1, NO_SUCH, t -> x.deed(t, 0, 0));
        due.range("rule of one of two", 0, 1, NO_SUCH, l -> x.rule(l, 0, 0));
        due.range("votes by one of two", 0, 1, NO_SUCH, l -> x.votes(1, 1, l, 1));
        due.range("claim of one of two", 0, 1, NO_SUCH, r -> x.claim(r, 0, 0));
        due.range("lips of one of two", 0, 1, NO_SUCH, r -> x.lips(1, 1, r, 0));
    }

    // as many JUDGES, PLEADERS and FIELDS as may be, and as few
    private void fullRanges() {
        OneEared x = Due.of("size 8 8;" + "left 63 0 9 0;".repeat(6) + "plead 0;".repeat(4), "wait;".repeat(30));
        due.range("judge of six", 0, 5, NONE, j -> x.judge(0, j, 0));
        due.range("pleader of four", 0, 3, NO_SUCH, p -> x.pleader(0, p, false));
        due.range("far of 64 fields", 0, 63, NONE, f -> x.far(0, f, 0));
        due.range("comes from 64 fields", 0, 63, NONE, f -> x.comes(0, 5, f, 0));
        due.range("ears of 64 fields", 0, 63, NONE, f -> x.ears(0, f, 0, 0));
        due.range("hush of 64 fields", 9, 63, NONE, f -> f >= 0 && f < 9 ? NONE : x.hush(0, f, 0, 6));
        due.range("hush, n", 1, 6, NONE, n -> x.hush(0, 63, 0, n));
        due.range("deed of thirty", 0, 29, NO_SUCH, k -> x.deed(0, k, 0), NONE);
        due.range("state of thirty deeds", 0, 30, NONE, n -> x.knows(0, 0, n, 5));
        due.range("state of thirty deeds", 0, 30, NO_SUCH, n -> x.stands(0, 0, n, 3, false));
        due.range("drawn, judge of six", 10, 15, NONE, what -> what == 0 || what == 1 ? NONE : x.drawn(0, 0, 1, 50, what));
        OneEared y = Due.of("size 2 2;", "");
        due.range("far of four fields", 0, 3, NONE, f -> y.far(0, 0, f));
        due.range("state without deeds", 0, 0, NONE, n -> y.knows(0, 0, n, -2));
        int[] few = {Integer.MIN_VALUE, -3, -2, -1, 0, 1, 5, 6, Integer.MAX_VALUE};
        for (int n : few) {
            due.is("no judge " + n, y.judge(0, n, 0), NONE);
            due.is("no pleader " + n, y.pleader(0, n, true), NO_SUCH);
            due.is("no pleader stands " + n, y.stands(0, 0, 0, n, false), NO_SUCH);
            due.is("no deed " + n, y.deed(0, n, 0), n == NONE ? 0 : NO_SUCH);
            due.is("no judge is bought " + n, y.sold(0, 0, n, false), NONE);
            due.is("no judge sits " + n, y.seats(0, 0, n), n == NONE ? 0 : NONE);
        }
    }
}
