/** TRIALS, LAWS and ROLLS at their edges: the last DEED, RULE, CLAIM, WORD, JUDGE; ties. Promises 17 to 29, 31 to 36. */
final class TrialEdgesTest {
    private static final int NONE = OneEared.NONE;

    // pleaders 0 .. 3 stand north, east, south and west of 4, where the judges are
    private static final String ROUND_ABOUT = "size 3 3;plead 1;plead 5;plead 7;plead 3;";

    private final Due due = new Due();

    public static void main(String[] args) {
        TrialEdgesTest test = new TrialEdgesTest();
        test.deedsToldAsTexts();
        test.stops();
        test.lastStates();
        test.twinsStep();
        test.knowing();
        test.deedsAtTheirHours();
        test.twinsSay();
        test.commonAndLost();
        test.votes();
        test.verdicts();
        test.sway();
        test.tips();
        test.sold();
        test.thirdEars();
        test.seats();
        test.claims();
        test.lips();
        test.readers();
        test.drawnHours();
        test.drawnWords();
        test.drawnEdges();
        test.benches();
        test.starts();
        test.idle();
        test.persuade();
        test.mouths();
        test.rifts();
        test.thirtiethDeed();
        test.nobodyThere();
        test.afterOthers();
        test.due.close();
    }

    // ---- promises 17 to 19 ----

    private void deedsToldAsTexts() {
        OneEared x = Due.of("", "say 3 9 8;go 3 2;wait;say 0 0 0;go 0 0;" + "wait;".repeat(24) + "say 1 2 3;");
        int[][] told = {{1, 3, 9, 8}, {0, 3, 2, NONE}, {2, NONE, NONE, NONE}, {1, 0, 0, 0}, {0, 0, 0, NONE}};
        for (int k = 0; k < told.length; k++) {
            for (int what = 0; what < 4; what++) {
                due.is("deed " + k + ", " + what, x.deed(0, k, what), told[k][what]);
            }
        }
        due.is("deeds", x.deed(0, NONE, 0), 30);
        due.is("deed 28", x.deed(0, 28, 0), 2);
        for (int what = 0; what < 4; what++) {
            due.is("deed 29, " + what, x.deed(0, 29, what), what == 0 ? 1 : what);
        }
        due.is("deed 30", x.deed(0, 30, 0), -2);
        due.is("deeds, what 1", x.deed(0, NONE, 1), -2);
        due.is("deeds, what -1", x.deed(0, NONE, -1), -2);
        OneEared none = Due.of("", "");
        due.is("no deeds", none.deed(0, NONE, 0), 0);
        due.is("no deed 0", none.deed(0, 0, 0), -2);
    }

    private void stop(String court, String trial, int stop) {
        due.is("stop of '" + trial + "' in '" + court + "'", Due.of(court, trial).stop(0, 0), stop);
    }

    private void stops() {
        stop("", "", 0);
        stop("", "wait;", 1);
        stop("", "wait;".repeat(30), 30);
        stop("", "wait;".repeat(29) + "go 0 0;", 29);
        stop("plead 12;", "wait;".repeat(29) + "go 0 0;", 30);
        // no such PLEADER
        for (int p = 0; p < 4; p++) {
            stop("plead 12;".repeat(p), "wait;say " + p + " 0 0;wait;", 1);
            stop("plead 12;".repeat(p), "wait;go " + p + " 0;wait;", 1);
            stop("plead 12;".repeat(p + 1), "wait;say " + p + " 0 0;wait;", 3);
            stop("plead 12;".repeat(p + 1), "wait;go " + p + " 0;wait;", 3);
        }
        // the edge and a WALL on each side
        String[] there = {"go 0 0;", "go 0 1;", "go 0 2;", "go 0 3;"};
        int[] beside = {7, 13, 17, 11};
        for (int side = 0; side < 4; side++) {
            stop("plead 12;", there[side].repeat(3), 2);
            stop("plead 12;wall " + beside[side] + ";", there[side], 0);
            stop("plead 12;wall " + beside[(side + 1) % 4] + " " + beside[(side + 2) % 4] + " " + beside[(side + 3) % 4] + ";", there[side], 1);
            // a TWIN may stand where he likes, and who sits there does not matter
            stop("plead 12;twin 0 " + beside[side] + ";left " + beside[side] + " 0 0 0;plead " + beside[side] + ";", there[side], 1);
        }
        // only the first that can't be counts
        stop("plead 0;", "say 0 0 0;go 0 0;go 0 1;go 3 0;", 1);
        // a WALL in the way of the TWIN stops nobody
        stop("plead 12;twin 0 2;", "go 0 2;", 1);
    }

    private void lastStates() {
        OneEared x = Due.of("size 8 8;plead 0;twin 0 63;plead 7;", "go 0 1;".repeat(7) + "go 0 2;".repeat(7) + "go 1 2;".repeat(7) + "go 1 3;".repeat(7)
                + "go 1 3;");
        due.is("stop", x.stop(0, 0), 28);
        for (int n = 0; n <= 28; n++) {
            int columns = Math.min(n, 7);
            int rows = Math.min(Math.max(n - 7, 0), 7);
            due.is("stands " + n, x.stands(0, 0, n, 0, false), columns + 8 * rows);
            due.is("twin stands " + n, x.stands(0, 0, n, 0, true), 63 - columns - 8 * rows);
            int down = Math.min(Math.max(n - 14, 0), 7);
            int back = Math.max(n - 21, 0);
            due.is("other stands " + n, x.stands(0, 0, n, 1, false), 7 + 8 * down - back);
            due.is("other has no twin " + n, x.stands(0, 0, n, 1, true), NONE);
        }
        due.is("the deed that can't be", x.stands(0, 0, 29, 0, false), -2);
        due.is("the deed that can't be, knows", x.knows(0, 0, 29, -2), NONE);
        due.is("no such state", x.stands(0, 0, 30, 0, false), -2);
        due.is("no such pleader", x.stands(0, 0, 0, 2, false), -2);
        due.is("no such pleader's twin", x.stands(0, 0, 0, 2, true), -2);
    }

    private void twinsStep() {
        // the twin goes the other way round; at a WALL and the edge he stays; others' twins stay, too
        OneEared x = Due.of("size 3 3;wall 1;plead 4;twin 0 4;plead 4;twin 1 8;", "go 0 3;go 0 1;go 0 2;go 0 1;go 0 0;go 1 2;");
        int[][] told = {{4, 4, 8}, {3, 5, 8}, {4, 4, 8}, {7, 4, 8}, {8, 3, 8}, {5, 6, 8}, {5, 6, 5}};
        due.is("stop", x.stop(0, 0), 6);
        for (int n = 0; n < told.length; n++) {
            due.is("stands " + n, x.stands(0, 0, n, 0, false), told[n][0]);
            due.is("twin " + n, x.stands(0, 0, n, 0, true), told[n][1]);
            due.is("other twin " + n, x.stands(0, 0, n, 1, true), told[n][2]);
            due.is("other stands " + n, x.stands(0, 0, n, 1, false), n < 6 ? 4 : 7);
        }
        due.is("the text's field", x.pleader(0, 0, false), 4);
        due.is("the text's twin", x.pleader(0, 0, true), 4);
    }

    // ---- promises 20 and 21 ----

    private void knowing() {
        OneEared x = Due.of(ROUND_ABOUT + "left 4 0 0 0;right 4 0 0 0;",
                "say 0 0 1;say 0 1 0;say 1 2 9;say 2 3 9;say 3 9 1;wait;say 0 0 1;go 0 1;");
        int[][] told = {{0, 0, 0, 0}, {1, 1, 1, 0}, {1, 1, 1, 2}, {1, 5, 1, 2}, {1, 5, 1, 10}, {513, 5, 1, 10}, {513, 5, 1, 10}, {513, 5, 1, 10}, {513, 5, 1, 10}};
        for (int n = 0; n < told.length; n++) {
            due.is("left knows " + n, x.knows(0, 0, n, 0), told[n][0]);
            due.is("right knows " + n, x.knows(0, 0, n, 1), told[n][1]);
            due.is("common " + n, x.knows(0, 0, n, NONE), told[n][2]);
            due.is("lost " + n, x.knows(0, 0, n, -2), told[n][3]);
        }
        int[] heard = {3, 0, 2, 0, 1, NONE, 3, NONE, NONE};
        for (int k = 0; k < heard.length; k++) {
            due.is("heard " + k, x.heard(0, 0, k), heard[k]);
        }
        // all words by all six judges
        StringBuilder words = new StringBuilder();
        for (int w = 0; w < 10; w++) {
            words.append("say 0 ").append(w).append(" 0;");
        }
        x = Due.of("plead 0;" + "left 0 0 0 0;".repeat(6), words.toString());
        for (int j = 0; j < 6; j++) {
            due.is("judge " + j + " knows all", x.knows(0, 0, 10, j), 1023);
            due.is("judge " + j + " knows all but one", x.knows(0, 0, 9, j), 511);
        }
        due.is("all is common", x.knows(0, 0, 10, NONE), 1023);
        due.is("nothing is lost", x.knows(0, 0, 10, -2), 0);
        due.is("heard by six", x.heard(0, 0, 9), 63);
        due.is("judge 6", x.knows(0, 0, 10, 6), NONE);
    }

    private void deedsAtTheirHours() {
        // each DEED is an hour, from 0 on: he faces north at hours 0, 4, .., and HEARS the north from
        // his left at hours 1, 5, ..
        StringBuilder trial = new StringBuilder("go 0 0;go 0 2;wait;");
        for (int k = 3; k < 30; k++) {
            trial.append("say 0 ").append(k % 10).append(" 1;");
        }
        OneEared x = Due.of("size 3 4;plead 4;left 7 0 0 1;", trial.toString());
        due.is("stop", x.stop(0, 0), 30);
        for (int k = 0; k < 30; k++) {
            due.is("heard at hour " + k, x.heard(0, 0, k), k < 3 ? NONE : k % 4 < 2 ? 1 : 0);
        }
        due.is("knows 29", x.knows(0, 0, 29, 0), 1 << 4 | 1 << 5 | 1 << 8 | 1 << 9 | 1 << 2 | 1 << 3 | 1 << 6 | 1 << 7 | 1 | 2);
        x = Due.of("size 3 4;plead 4;left 7 0 0 1;", "wait;".repeat(28) + "say 0 7 1;say 0 9 1;");
        due.is("the last two hours", x.knows(0, 0, 30, 0), 128 + 512);
        due.is("the last hour but one", x.knows(0, 0, 29, 0), 128);
        x = Due.of("size 3 4;plead 4;left 7 3 0 1;", "wait;".repeat(28) + "say 0 7 1;say 0 9 1;");
        due.is("just the last hour", x.knows(0, 0, 30, 0), 512);
    }

    private void twinsSay() {
        // the judge on 0 HEARS just his own field; the twin comes there, and goes
        OneEared x = Due.of("size 3 2;left 0 0 0 0;plead 4;twin 0 1;plead 0;", "say 0 1 0;go 0 1;say 0 2 0;go 0 3;say 0 3 0;say 1 4 0;");
        int[] heard = {0, NONE, 1, NONE, 0, 1};
        for (int k = 0; k < heard.length; k++) {
            due.is("heard " + k, x.heard(0, 0, k), heard[k]);
        }
        due.is("knows", x.knows(0, 0, 6, 0), 4 + 16);
        due.is("lost", x.knows(0, 0, 6, -2), 2 + 8);
        // a PLEADER and his TWIN on one field, and a TWIN that nobody but another judge HEARS
        x = Due.of("size 3 2;left 0 0 0 0;left 5 0 0 0;plead 0;twin 0 5;plead 5;twin 1 5;", "say 0 1 0;say 1 2 0;");
        due.is("by both", x.heard(0, 0, 0), 3);
        due.is("by one", x.heard(0, 0, 1), 2);
        // TWIN on field 0, one on 63
        x = Due.of("size 8 8;left 0 0 0 0;left 63 0 0 0;plead 9;twin 0 0;plead 9;twin 1 63;", "say 0 1 0;say 1 2 0;");
        due.is("twin on 0", x.heard(0, 0, 0), 1);
        due.is("twin on 63", x.heard(0, 0, 1), 2);
        // FAR counts for each by itself: the TWIN is near, but on his deaf side
        x = Due.of("size 5 2;wall 5 6 7 8 9;right 2 0 1 0;plead 4;twin 0 1;", "say 0 1 0;say 0 2 1;");
        due.is("near and deaf, far and heard", x.knows(0, 0, 2, 0), 4);
    }

    private void commonAndLost() {
        OneEared x = Due.of("plead 0;", "say 0 2 0;say 0 9 9;wait;");
        due.is("without judges none is common", x.knows(0, 0, 3, NONE), 0);
        due.is("without judges none is common at first", x.knows(0, 0, 0, NONE), 0);
        due.is("without judges all is lost", x.knows(0, 0, 3, -2), 516);
        due.is("said first, lost first", x.knows(0, 0, 1, -2), 4);
        due.is("nothing said", x.knows(0, 0, 0, -2), 0);
        x = Due.of("left 0 0 0 0;left 1 0 0 0;left 2 0 0 0;plead 0;plead 1;plead 2;plead 3;",
                "say 0 1 0;say 1 1 0;say 3 1 0;say 3 2 0;say 2 1 0;say 2 2 0;");
        int[][] told = {{0, 0}, {0, 0}, {0, 0}, {0, 0}, {0, 4}, {2, 4}, {2, 0}};
        for (int n = 0; n < told.length; n++) {
            due.is("common behind " + n, x.knows(0, 0, n, NONE), told[n][0]);
            due.is("lost behind " + n, x.knows(0, 0, n, -2), told[n][1]);
        }
    }

    // ---- promises 22 to 24 ----

    /** Judges 0 .. 2 on 0 .. 2, who HEAR just their own fields; the pleaders say a word on each. */
    private static final String THREE = "left 0 0 0 0;left 1 0 0 0;left 2 0 0 0;plead 0;plead 1;plead 2;";

    private void votes() {
        OneEared x = Due.of(THREE, "say 0 0 0;say 1 9 0;", "yes 0 -;no - -;");
        String[] laws = {"yes 0 -;no - -;", "yes - 0;no - -;", "yes 9 0;no 0 9;", "no 9 -;yes 9 -;", "yes 0 0;", "", "yes - -;no - -;", "no - 9;",
            "yes 1 -;yes 2 -;yes 3 -;yes 4 -;yes 5 -;yes 6 -;yes 7 -;no 9 -;"};
        int[][] votes = {{1, 0, 0}, {0, 1, 1}, {0, 1, NONE}, {NONE, 0, NONE}, {NONE, NONE, NONE}, {NONE, NONE, NONE}, {1, 1, 1}, {0, NONE, 0},
            {NONE, 0, NONE}};
        int[] verdicts = {0, 1, NONE, 0, NONE, NONE, 1, 0, 0};
        for (int i = 0; i < laws.length; i++) {
            Due.tell(x, Due.LAW, 0, laws[i]);
            for (int j = 0; j < 3; j++) {
                due.is("vote of " + j + " by '" + laws[i] + "'", x.votes(0, 0, 0, j), votes[i][j]);
            }
            due.is("verdict by '" + laws[i] + "'", x.votes(0, 0, 0, NONE), verdicts[i]);
        }
        for (int j : new int[] {-2, 3, Integer.MIN_VALUE, Integer.MAX_VALUE}) {
            due.is("no judge " + j, x.votes(0, 0, 0, j), -2);
        }
        // behind all DEEDS, up to STOP
        Due.tell(x, Due.TRIAL, 0, "say 0 0 0;go 0 0;say 1 9 0;");
        Due.tell(x, Due.LAW, 0, "yes 9 -;no 0 -;");
        due.is("before STOP", x.votes(0, 0, 0, 0), 0);
        due.is("behind STOP", x.votes(0, 0, 0, 1), NONE);
        Due.tell(x, Due.LAW, 0, "yes 1 2;no 9 0;yes - 9;no - -;yes 9 -;no 8 7;yes 7 8;no 6 5;");
        int[][] rules = {{1, 1, 2}, {0, 9, 0}, {1, NONE, 9}, {0, NONE, NONE}, {1, 9, NONE}, {0, 8, 7}, {1, 7, 8}, {0, 6, 5}};
        due.is("eight rules", x.rule(0, NONE, 0), 8);
        for (int k = 0; k < 8; k++) {
            for (int what = 0; what < 3; what++) {
                due.is("rule " + k + ", " + what, x.rule(0, k, what), rules[k][what]);
            }
            due.is("rule " + k + ", 3", x.rule(0, k, 3), -2);
        }
        due.is("rule 8", x.rule(0, 8, 0), -2);
    }

    /** Six judges of whom so many KNOW word 1 and vote yes, and so many word 2 and no. */
    private static OneEared bench(int yes, int no) {
        StringBuilder court = new StringBuilder("plead 0;plead 1;");
        for (int j = 0; j < 6; j++) {
            court.append("left ").append(j < yes ? 0 : j < yes + no ? 1 : 2).append(" 0 0 0;");
        }
        return Due.of(court.toString(), "say 0 1 0;say 1 2 0;", "yes 1 -;no 2 -;");
    }

    private void verdicts() {
        for (int yes = 0; yes <= 6; yes++) {
            for (int no = 0; yes + no <= 6; no++) {
                String of = yes + " yes, " + no + " no: ";
                OneEared x = bench(yes, no);
                int verdict = yes > no ? 1 : yes < no ? 0 : NONE;
                due.is(of + "verdict", x.votes(0, 0, 0, NONE), verdict);
                due.is(of + "the first votes", x.votes(0, 0, 0, 0), yes > 0 ? 1 : no > 0 ? 0 : NONE);
                due.is(of + "the last votes", x.votes(0, 0, 0, 5), yes + no < 6 ? NONE : no > 0 ? 0 : 1);
                // one vote to the other side makes a lead smaller by two
                boolean yesSways = yes > 0 && yes - no <= 2 && yes - no >= 0;
                boolean noSways = no > 0 && no - yes <= 2 && no - yes >= 0;
                int yesBits = (1 << yes) - 1;
                int noBits = (1 << yes + no) - 1 - yesBits;
                due.is(of + "sway", x.sway(0, 0, 0, 0), (yesSways ? yesBits : 0) | (noSways ? noBits : 0));
                // on their own fields ears change nothing
                due.is(of + "fair", x.sway(0, 0, 0, 1), 0);
            }
        }
    }

    private void sway() {
        // who does not vote sways nothing, even if the other two are even
        OneEared x = Due.of(THREE, "say 0 1 0;say 1 2 0;", "yes 1 -;no 2 -;");
        due.is("even", x.votes(0, 0, 0, NONE), NONE);
        due.is("who votes", x.sway(0, 0, 0, 0), 3);
        due.is("what 2", x.sway(0, 0, 0, 2), NONE);
        Due.tell(x, Due.TRIAL, 0, "say 0 0 0;");
        Due.tell(x, Due.LAW, 0, "yes 0 -;no - -;");
        due.is("one yes by word 0, two no", x.sway(0, 0, 0, 0), 6);
        due.is("without judges", Due.of("", "", "yes - -;").sway(0, 0, 0, 0), 0);
        due.is("without judges, tips", Due.of("", "", "yes - -;").sway(0, 0, 0, 1), 0);
    }

    private void tips() {
        // judge 0 HEARS north and west, judge 1 north and east, judge 2 north and west
        String bench = ROUND_ABOUT + "left 4 0 9 0;right 4 0 9 0;left 4 0 9 0;";
        // word 1 comes from the west: 0 and 2 vote yes, 1 no
        OneEared x = Due.of(bench, "say 3 1 0;", "yes 1 -;no - -;");
        due.is("verdict", x.votes(0, 0, 0, NONE), 1);
        due.is("either of both tips it", x.sway(0, 0, 0, 1), 5);
        due.is("sway", x.sway(0, 0, 0, 0), 5);
        // from the north all HEAR it, whichever ear
        Due.tell(x, Due.TRIAL, 0, "say 0 1 0;");
        due.is("from ahead it is fair", x.sway(0, 0, 0, 1), 0);
        // nobody but judge 1 HEARS it: even are none, one yes; each change counts by itself
        Due.tell(x, Due.LAW, 0, "yes 1 -;");
        Due.tell(x, Due.TRIAL, 0, "say 1 1 0;");
        due.is("one yes", x.votes(0, 0, 0, NONE), 1);
        due.is("without it none", x.sway(0, 0, 0, 1), 2);
        // who does not vote may tip it by his other ear
        Due.tell(x, Due.LAW, 0, "yes 1 2;no 2 -;");
        Due.tell(x, Due.TRIAL, 0, "say 3 1 0;say 1 2 0;");
        due.is("two yes, one no", x.votes(0, 0, 0, NONE), 1);
        due.is("turned, 0 and 2 say no", x.sway(0, 0, 0, 1), 5);
        Due.tell(x, Due.LAW, 0, "no 2 -;");
        Due.tell(x, Due.TRIAL, 0, "say 3 1 0;");
        due.is("nobody votes", x.votes(0, 0, 0, NONE), NONE);
        due.is("nobody tips", x.sway(0, 0, 0, 1), 0);
        Due.tell(x, Due.LAW, 0, "no 1 -;no - 1;");
        due.is("all say no", x.sway(0, 0, 0, 1), 0);
        Due.tell(x, Due.TRIAL, 0, "say 1 2 0;");
        Due.tell(x, Due.LAW, 0, "no 2 -;");
        due.is("the last and the first by the other ear, too", x.sway(0, 0, 0, 1), 2);
        Due.tell(x, Due.LAW, 0, "yes 2 -;no - -;");
        due.is("two no, one yes: each of the two makes it yes", x.sway(0, 0, 0, 1), 5);
    }

    // ---- promises 25 and 26 ----

    private void sold() {
        // each judge on 4 HEARS words 1 (ahead), 2 (left), 3 (right), 4 (behind) as his ear lets him
        OneEared x = Due.of(ROUND_ABOUT + "left 4 0 1 0;right 4 0 1 0;left 4 1 1 0;right 4 2 1 0;left 0 0 0 0;right 4 0 0 0;",
                "say 0 1 0;say 3 2 0;say 1 3 0;say 2 4 0;say 1 5 0;say 1 3 0;");
        int[] known = {2 + 4, 2 + 8 + 32, 8 + 32 + 2, 16 + 4, 0, 0};
        int[] sold = {1, 2, 1, 1, 0, 0};
        int[] third = {2, 1, 1, 2, 0, 0};
        for (int j = 0; j < 6; j++) {
            due.is("known " + j, x.knows(0, 0, 6, j), known[j]);
            due.is("sold " + j, x.sold(0, 0, j, false), sold[j]);
            due.is("third " + j, x.sold(0, 0, j, true), third[j]);
        }
        due.is("dearest", x.sold(0, 0, NONE, false), 1);
        due.is("dearest, third", x.sold(0, 0, NONE, true), 1);
        due.is("judge 6", x.sold(0, 0, 6, false), NONE);
        due.is("judge -2", x.sold(0, 0, -2, true), NONE);
        for (int j = -2; j < 2; j++) {
            due.is("without judges " + j, Due.of("plead 0;", "say 0 1 0;").sold(0, 0, j, false), NONE);
            due.is("without judges, third " + j, Due.of("plead 0;", "say 0 1 0;").sold(0, 0, j, true), NONE);
        }
        // the last is dearest; all even: the first
        x = Due.of(ROUND_ABOUT + "left 4 0 1 0;".repeat(5) + "right 4 0 1 0;", "say 1 1 0;");
        due.is("the last", x.sold(0, 0, NONE, false), 5);
        Due.tell(x, Due.TRIAL, 0, "say 3 1 0;");
        due.is("the first of five", x.sold(0, 0, NONE, false), 0);
        Due.tell(x, Due.TRIAL, 0, "say 2 1 0;");
        due.is("all even", x.sold(0, 0, NONE, false), 0);
    }

    private void thirdEars() {
        // on his own field and from ahead he HEARS without his ear, and never from behind
        OneEared x = Due.of("size 3 3;plead 4;plead 1;plead 7;left 4 0 1 0;", "say 0 1 0;say 1 2 0;say 2 3 0;");
        due.is("knows", x.knows(0, 0, 3, 0), 6);
        due.is("nothing is sold", x.sold(0, 0, 0, false), 0);
        due.is("nothing is won", x.sold(0, 0, 0, true), 0);
        // a word that he HEARS at another hour from ahead is not lost
        x = Due.of(ROUND_ABOUT + "left 4 0 1 1;", "say 3 1 0;wait;wait;say 3 1 0;say 3 2 0;");
        due.is("heard by the ear, then from ahead", x.sold(0, 0, 0, false), 1);
        // reach stays: too far is too far
        x = Due.of("left 12 0 1 0;plead 14;plead 10;", "say 0 1 0;say 1 2 0;say 0 3 1;");
        due.is("just the loud one", x.sold(0, 0, 0, true), 1);
        // what COMES from ahead and from the side is not lost
        x = Due.of("size 3 3;left 4 0 9 0;plead 0;plead 2;", "say 0 1 0;say 1 2 0;");
        due.is("from ahead, too", x.sold(0, 0, 0, false), 0);
    }

    private void seats() {
        // seats 0 .. 5 off the speaker, judge j of reach 5 - j: just one way lets all HEAR
        StringBuilder court = new StringBuilder("size 8 2;plead 0;");
        for (int j = 0; j < 6; j++) {
            court.append("right ").append(j).append(" 3 ").append(5 - j).append(" 0;");
        }
        OneEared x = Due.of(court.toString(), "say 0 1 0;");
        for (int j = 0; j < 6; j++) {
            due.is("turned round, " + j, x.seats(0, 0, j), 5 - j);
        }
        due.is("all six", x.seats(0, 0, NONE), 6);
        due.is("judge 6", x.seats(0, 0, 6), NONE);
        due.is("judge -2", x.seats(0, 0, -2), NONE);
        Due.tell(x, Due.TRIAL, 0, "wait;");
        for (int j = 0; j < 6; j++) {
            due.is("all even, " + j, x.seats(0, 0, j), j);
        }
        due.is("nothing known", x.seats(0, 0, NONE), 0);
        // of several the first by rows: judge 0 must leave seat 0 to judge 1, and takes 1 before 2
        x = Due.of("size 8 2;plead 0;right 0 3 1 0;right 1 3 0 0;right 1 3 1 0;", "say 0 1 0;");
        int[] first = {1, 0, 2};
        for (int j = 0; j < 3; j++) {
            due.is("first by rows, " + j, x.seats(0, 0, j), first[j]);
        }
        // ears go with judges, sides and turns stay: seat 0 faces north, seat 1 south
        x = Due.of(ROUND_ABOUT + "left 4 0 1 0;right 4 2 1 0;", "say 1 1 0;say 1 2 0;");
        due.is("the right ear north", x.seats(0, 0, 1), 0);
        due.is("the left ear south", x.seats(0, 0, 0), 1);
        due.is("both HEAR both", x.seats(0, 0, NONE), 4);
        // turns stay with seats: at hour 1 seat 0 faces east
        x = Due.of(ROUND_ABOUT + "left 4 0 1 1;right 4 0 1 0;", "wait;say 2 1 0;");
        due.is("the right ear turns", x.seats(0, 0, 1), 0);
        due.is("the left ear does not", x.seats(0, 0, 0), 1);
        due.is("one word", x.seats(0, 0, NONE), 1);
        // worth by words, not by deeds
        x = Due.of("plead 0;left 0 0 0 0;left 1 0 0 0;", "say 0 1 0;say 0 1 0;");
        due.is("one word told twice", x.seats(0, 0, NONE), 1);
        OneEared none = Due.of("plead 0;", "say 0 1 0;");
        due.is("without judges", none.seats(0, 0, NONE), 0);
        due.is("without judges, 0", none.seats(0, 0, 0), NONE);
    }

    // ---- promises 27 and 28 ----

    private void claims() {
        StringBuilder roll = new StringBuilder();
        for (int k = 0; k < 12; k++) {
            roll.append("know ").append(k % 6).append(' ').append(k % 10).append(';');
        }
        OneEared x = Due.of("left 0 0 0 0;plead 0;", "say 0 6 0;", "", roll.toString());
        due.is("claims", x.claim(0, NONE, 0), 12);
        for (int k = 0; k < 12; k++) {
            due.is("judge of " + k, x.claim(0, k, 0), k % 6);
            due.is("word of " + k, x.claim(0, k, 1), k % 10);
            due.is("what 2 of " + k, x.claim(0, k, 2), -2);
        }
        due.is("claim 12", x.claim(0, 12, 0), -2);
        due.is("claims, what 1", x.claim(0, NONE, 1), -2);
        // claim 6 is of judge 0 and word 6; claim 0 is of word 0, which he does not know
        due.is("liars, of those not there, too", x.lips(0, 0, 0, 0), 4095 - 64);
        due.is("false", x.lips(0, 0, 0, 2), 4095 - 64);
        due.is("lips", x.lips(0, 0, 0, 1), 0);
        due.is("reader", x.lips(0, 0, 0, 3), NONE);
        OneEared none = Due.of("", "", "", "");
        due.is("no claims", none.claim(0, NONE, 0), 0);
        for (int what = 0; what < 3; what++) {
            due.is("no claims, no lips " + what, none.lips(0, 0, 0, what), 0);
        }
        due.is("no claims, no reader", none.lips(0, 0, 0, 3), NONE);
    }

    private void lips() {
        // the judge on 0 faces east along the row at hour 0, south down the column at hour 1, then
        // west and north, over the edges; he HEARS just his own field
        String judge = "size 8 8;left 0 1 0 1;";
        String all = "know 0 1;know 0 2;know 0 3;";
        seen(judge + "plead 7;", "say 0 1 0;", all, 1);
        seen(judge + "plead 7;", "wait;say 0 1 0;", all, 0);
        seen(judge + "plead 56;", "wait;say 0 1 0;", all, 1);
        seen(judge + "plead 56;", "say 0 1 0;wait;", all, 0);
        seen(judge + "plead 56;", "wait;wait;say 0 1 0;say 0 2 0;", all, 0);
        seen(judge + "plead 56;", "wait;wait;wait;wait;wait;say 0 3 0;", all, 4);
        seen(judge + "plead 9;", "say 0 1 0;say 0 2 0;", all, 0);
        // no WALL between
        seen(judge + "plead 7;wall 6;", "say 0 1 0;", all, 0);
        seen(judge + "plead 7;wall 1;", "say 0 1 0;", all, 0);
        seen(judge + "plead 5;wall 6;", "say 0 1 0;", all, 1);
        seen(judge + "plead 48;wall 56 8;", "wait;say 0 1 0;", all, 0);
        // who sits between does not matter, nor that no sound comes there
        seen(judge + "plead 7;left 3 0 0 0;plead 4;", "say 0 1 0;", all, 1);
        // the TWIN speaks, too, wherever he has gone
        seen(judge + "plead 63;twin 0 7;", "say 0 1 0;", all, 1);
        seen(judge + "plead 62;twin 0 8;", "say 0 1 0;go 0 1;wait;wait;say 0 2 0;wait;", all, 0);
        seen(judge + "plead 55;twin 0 9;", "go 0 2;wait;wait;wait;say 0 2 0;", all, 2);
        // of several DEEDS one is enough
        seen(judge + "plead 7;plead 63;", "say 0 1 0;say 1 1 0;say 1 2 0;", all, 1);
        // a DEED behind STOP is not seen
        seen(judge + "plead 7;", "go 0 0;say 0 1 0;", all, 0);
        seen(judge + "plead 7;", "wait;wait;wait;wait;go 0 0;", all, 0);
        // a go or a wait is not said
        seen(judge + "plead 6;", "say 0 1 0;wait;wait;wait;go 0 1;", all, 1);
        // the last of thirty DEEDS
        seen(judge + "plead 7;", "wait;".repeat(28) + "say 0 2 0;wait;", all, 2);
        seen(judge + "plead 56;", "wait;".repeat(29) + "say 0 2 0;", all, 2);
        seen(judge + "plead 7;", "wait;".repeat(30), all, 0);
        // what a TRIAL told before another took its place is not seen
        OneEared later = Due.of(judge + "plead 7;", "wait;wait;wait;wait;say 0 1 0;", "", all);
        for (String trial : new String[] {"wait;wait;wait;wait;say 0 2 0;", "wait;wait;wait;wait;", "wait;wait;wait;wait;", "say 0 3 0;", ""}) {
            due.is("in the place of the longer one", Due.tell(later, Due.TRIAL, 0, trial), 0);
            due.is("lips of '" + trial + "'", later.lips(0, 0, 0, 1), trial.contains("say 0 2") ? 2 : trial.contains("say 0 3") ? 4 : 0);
            due.is("lost of '" + trial + "'", later.knows(0, 0, later.stop(0, 0), -2), trial.contains("say 0 2") ? 4 : trial.contains("say 0 3") ? 8 : 0);
        }
        // nor by JUDGES that a COURT had before another took its place
        OneEared fewer = Due.of("size 8 8;plead 7;" + "left 0 1 0 0;".repeat(6), "say 0 1 0;", "", "know 5 1;know 1 1;");
        due.is("lips of six", fewer.lips(0, 0, 0, 1), 3);
        for (int i = 0; i < 3; i++) {
            due.is("in the place of six", Due.tell(fewer, Due.COURT, 0, "size 8 8;plead 7;left 63 1 0 0;"), 0);
            due.is("liars of one", fewer.lips(0, 0, 0, 0), 3);
            due.is("lips of one", fewer.lips(0, 0, 0, 1), 0);
            due.is("false of one", fewer.lips(0, 0, 0, 2), 3);
            due.is("no reader", fewer.lips(0, 0, 0, 3), NONE);
        }
        // on field 63, back to 56 and up to 7
        String last = "size 8 8;left 63 3 0 1;plead 56;plead 7;";
        seen(last, "say 0 1 0;say 1 2 0;", all, 3);
        // of a word that he HEARD, or of a judge that is not there, no lips
        seen("size 8 8;left 0 1 9 0;plead 7;plead 63;", "say 0 1 0;say 1 2 0;", "know 0 2;know 0 1;know 1 1;", 0);
    }

    private void seen(String court, String trial, String roll, int lips) {
        OneEared x = Due.of(court, trial, "", roll);
        String call = "lips of '" + trial + "' in '" + court + "'";
        due.is(call, x.lips(0, 0, 0, 1), lips);
        int liar = x.lips(0, 0, 0, 0);
        due.is(call + ", all of them liars", lips & ~liar, 0);
        due.is(call + ", the others are false", x.lips(0, 0, 0, 2), liar - lips);
        due.is(call + ", reader", x.lips(0, 0, 0, 3), lips == 0 ? NONE : 0);
    }

    private void readers() {
        // six judges down the column, all look east at row 0 .. 5; pleaders stand at their ends
        StringBuilder court = new StringBuilder("size 8 8;");
        for (int j = 0; j < 6; j++) {
            court.append("left ").append(8 * j).append(" 1 0 0;");
        }
        court.append("plead 7;plead 15;plead 47;");
        OneEared x = Due.of(court.toString(), "say 0 1 0;say 1 2 0;say 2 3 0;say 2 4 0;", "",
                "know 5 3;know 5 4;know 0 1;know 1 2;know 1 1;know 5 1;know 0 9;");
        due.is("liars", x.lips(0, 0, 0, 0), 127);
        due.is("lips", x.lips(0, 0, 0, 1), 1 + 2 + 4 + 8);
        due.is("false", x.lips(0, 0, 0, 2), 16 + 32 + 64);
        due.is("reader with the most", x.lips(0, 0, 0, 3), 5);
        String[] rolls = {"know 5 3;know 1 2;know 0 1;", "know 5 3;know 1 2;", "know 5 3;", "know 5 1;", "know 1 2;know 5 3;know 5 3;",
            "know 1 2;know 5 3;know 1 2;know 5 4;"};
        int[] readers = {0, 1, 5, NONE, 5, 1};
        for (int i = 0; i < rolls.length; i++) {
            Due.tell(x, Due.ROLL, 0, rolls[i]);
            due.is("reader of '" + rolls[i] + "'", x.lips(0, 0, 0, 3), readers[i]);
        }
    }

    // ---- promise 29 ----

    // seeds, their hours of thunder in 30 hours by 50, and the sides of the first ten by 100, as
    // drawn with numbers that have no bound, cut to 32 bits
    private static final int[] SEEDS = {0, 1, -1, Integer.MAX_VALUE, Integer.MIN_VALUE, 7, -77};
    private static final int[] HOURS = {10, 15, 16, 17, 15, 19, 14};
    private static final int[][] SIDES = {{0, 1, 3, 1, 2, 0, 2, 3, 1, 1}, {2, 3, 3, 3, 2, 3, 0, 3, 3, 2}, {1, 2, 2, 3, 2, 1, 0, 2, 2, 1},
        {1, 2, 2, 3, 2, 1, 0, 2, 2, 1}, {0, 1, 3, 1, 2, 0, 2, 3, 1, 1}, {2, 2, 1, 2, 1, 3, 2, 2, 2, 0}, {3, 0, 0, 1, 2, 3, 2, 0, 2, 0}};

    private void drawnHours() {
        OneEared x = Due.of("", "wait;".repeat(30));
        for (int i = 0; i < SEEDS.length; i++) {
            due.is("hours of seed " + SEEDS[i], x.drawn(0, 0, SEEDS[i], 50, 1), HOURS[i]);
            due.is("hours by 0", x.drawn(0, 0, SEEDS[i], 0, 1), 0);
            due.is("hours by 100", x.drawn(0, 0, SEEDS[i], 100, 1), 30);
        }
        // the first number drawn is 99 by 116 and -389, 0 by 0, 54 and -397, 49 by 11, 50 by 74
        OneEared one = Due.of("", "wait;");
        int[][] told = {{116, 99, 0}, {116, 100, 1}, {-389, 99, 0}, {-389, 100, 1}, {0, 0, 0}, {0, 1, 1}, {54, 0, 0}, {54, 1, 1}, {-397, 1, 1},
            {11, 49, 0}, {11, 50, 1}, {74, 50, 0}, {74, 51, 1},
            // x is 0xffff, then 0x63ffff: the lower sixteen bits are shifted out, all set as they are
            {-115164386, 0, 0}, {-115164386, 1, 1}, {20036382, 99, 0}, {20036382, 100, 1}};
        for (int[] way : told) {
            due.is("hours of seed " + way[0] + " by " + way[1], one.drawn(0, 0, way[0], way[1], 1), way[2]);
        }
        // each DEED up to STOP is an hour, be it a go or a say; what is behind STOP is none
        OneEared all = Due.of("plead 0;", "say 0 1 0;go 0 1;wait;go 0 0;wait;");
        due.is("hours up to STOP", all.drawn(0, 0, 0, 100, 1), 3);
        due.is("no hours", Due.of("", "").drawn(0, 0, 0, 100, 1), 0);
        due.is("no words", Due.of("", "").drawn(0, 0, 0, 100, 0), 0);
    }

    private void drawnWords() {
        // judge 0 HEARS north and west, judge 1 south and east; word k is said at hour k from side k % 4
        StringBuilder trial = new StringBuilder();
        for (int k = 0; k < 10; k++) {
            trial.append("say ").append(k % 4).append(' ').append(k).append(" 0;");
        }
        OneEared x = Due.of(ROUND_ABOUT + "left 4 0 9 0;left 4 2 9 0;", trial.toString());
        for (int i = 0; i < SEEDS.length; i++) {
            int[] known = new int[2];
            for (int k = 0; k < 10; k++) {
                boolean drowned = SIDES[i][k] == k % 4;
                known[k % 4 == 1 || k % 4 == 2 ? 1 : 0] |= drowned ? 0 : 1 << k;
            }
            due.is("judge 0 by seed " + SEEDS[i], x.drawn(0, 0, SEEDS[i], 100, 10), known[0]);
            due.is("judge 1 by seed " + SEEDS[i], x.drawn(0, 0, SEEDS[i], 100, 11), known[1]);
            due.is("all by seed " + SEEDS[i], x.drawn(0, 0, SEEDS[i], 100, 0), Integer.bitCount(known[0]) + Integer.bitCount(known[1]));
            due.is("all by 0", x.drawn(0, 0, SEEDS[i], 0, 0), 10);
            due.is("judge 0 by 0", x.drawn(0, 0, SEEDS[i], 0, 10), 1 + 8 + 16 + 128 + 256);
            // by 100 nothing stays drowned for other calls
            due.is("without thunder", x.knows(0, 0, 10, 0), 1 + 8 + 16 + 128 + 256);
        }
        // as the COURT lies, wherever the judge faces: seed 0 thunders from the north at hour 0
        for (int side = 0; side < 4; side++) {
            OneEared y = Due.of(ROUND_ABOUT + "left 4 " + side + " 9 0;", "say 0 1 0;");
            due.is("from the north, facing " + side, y.drawn(0, 0, 0, 100, 10), 0);
            OneEared z = Due.of(ROUND_ABOUT + "left 4 " + side + " 9 0;", "say 1 1 0;");
            due.is("from the east, facing " + side, z.drawn(0, 0, 0, 100, 10), side == 1 || side == 2 ? 2 : 0);
        }
        // he turns: the west is at his left at hour 0 alone
        OneEared turning = Due.of(ROUND_ABOUT + "left 4 0 9 1;", "say 3 1 0;say 3 2 0;");
        due.is("turning, by 0", turning.drawn(0, 0, 0, 0, 0), 1);
        due.is("turning, which by 0", turning.drawn(0, 0, 0, 0, 10), 2);
        due.is("turning, by 100", turning.drawn(0, 0, 0, 100, 0), 1);
        // seed 0 draws 0, 56, 85, 98, 95 and 45 if by 1 just the first hour thunders, from the north
        due.is("just the first hour", x.drawn(0, 0, 0, 1, 10), 8 + 16 + 128 + 256);
        due.is("just the first hour, how many", x.drawn(0, 0, 0, 1, 1), 1);
    }

    private void drawnEdges() {
        // on his own field no thunder drowns a word
        OneEared x = Due.of("size 3 3;plead 4;left 4 0 0 0;", "say 0 1 0;say 0 2 0;say 0 3 0;");
        for (int seed : SEEDS) {
            due.is("on his own field", x.drawn(0, 0, seed, 100, 10), 14);
        }
        // the TWIN is heard from another side, or on the judge's field
        x = Due.of("size 3 3;plead 1;twin 0 3;plead 1;twin 1 4;plead 1;twin 2 1;left 4 0 9 0;", "say 0 1 0;");
        due.is("the twin from the west", x.drawn(0, 0, 0, 100, 10), 2);
        Due.tell(x, Due.TRIAL, 0, "say 1 1 0;");
        due.is("the twin on his field", x.drawn(0, 0, 0, 100, 10), 2);
        Due.tell(x, Due.TRIAL, 0, "say 2 1 0;");
        due.is("the twin from the north, too", x.drawn(0, 0, 0, 100, 10), 0);
        // a word that COMES from two sides is heard from the other one
        x = Due.of("size 3 3;plead 0;left 4 0 9 0;right 4 0 9 0;", "say 0 1 0;");
        due.is("from the west, too", x.drawn(0, 0, 0, 100, 10), 2);
        due.is("deaf to the west", x.drawn(0, 0, 0, 100, 11), 0);
        due.is("how much is known", x.drawn(0, 0, 0, 100, 0), 1);
        // six judges
        x = Due.of("plead 0;" + "left 0 0 0 0;".repeat(6), "say 0 9 0;");
        for (int j = 0; j < 6; j++) {
            due.is("judge " + j, x.drawn(0, 0, 5, 100, 10 + j), 512);
        }
        due.is("all six", x.drawn(0, 0, 5, 100, 0), 6);
        due.is("judge 6", x.drawn(0, 0, 5, 100, 16), NONE);
        for (int k : new int[] {Integer.MIN_VALUE, -1, 101, Integer.MAX_VALUE}) {
            due.is("by " + k, x.drawn(0, 0, 5, k, 0), NONE);
        }
        for (int what : new int[] {Integer.MIN_VALUE, -1, 2, 9, 16, 20, Integer.MAX_VALUE}) {
            due.is("what " + what, x.drawn(0, 0, 5, 50, what), NONE);
        }
        due.is("without judges", Due.of("plead 0;", "say 0 1 0;").drawn(0, 0, 5, 0, 0), 0);
        due.is("without judges, 0", Due.of("plead 0;", "say 0 1 0;").drawn(0, 0, 5, 0, 10), NONE);
    }

    // ---- promise 31 ----

    private void benches() {
        // ear, words from sides: the side from which most is heard
        String[] trials = {"say 0 1 1;", "say 1 1 1;", "say 2 1 1;", "say 3 1 1;", "say 2 1 1;say 3 2 1;", "say 3 1 1;say 0 2 1;", "say 0 1 1;say 2 2 1;", "wait;",
            "say 0 1 0;say 1 2 0;", "say 1 1 1;say 1 2 1;say 2 3 1;say 3 4 1;"};
        int[] left = {0, 1, 2, 0, 3, 0, 0, 0, 0, 2};
        int[] right = {0, 0, 1, 2, 2, 3, 0, 0, 0, 1};
        for (int i = 0; i < trials.length; i++) {
            for (int side = 0; side < 4; side++) {
                OneEared x = Due.of(ROUND_ABOUT + "left 4 " + side + " 0 0;right 4 " + side + " 0 0;", trials[i]);
                due.is("bench, left, of '" + trials[i] + "'", x.bench(0, 0, 0), left[i]);
                due.is("bench, right, of '" + trials[i] + "'", x.bench(0, 0, 1), right[i]);
            }
        }
        // he turns on from the side of hour 0
        OneEared x = Due.of(ROUND_ABOUT + "left 4 0 0 1;", "wait;wait;wait;say 2 1 1;say 3 2 1;");
        due.is("facing west at hour 3, north at hour 4", x.bench(0, 0, 0), 0);
        x = Due.of(ROUND_ABOUT + "left 4 0 0 1;", "wait;say 2 1 1;say 3 2 1;");
        due.is("facing south at hour 1, west at hour 2", x.bench(0, 0, 0), 1);
        // of six the last, by himself
        x = Due.of(ROUND_ABOUT + "left 4 1 0 0;".repeat(5) + "right 4 1 0 0;", "say 3 1 1;say 0 2 1;");
        due.is("the last of six", x.bench(0, 0, 5), 3);
        due.is("the first of six", x.bench(0, 0, 0), 0);
        due.is("judge 6", x.bench(0, 0, 6), NONE);
        due.is("judge -2", x.bench(0, 0, -2), NONE);
    }

    private void starts() {
        // words from the north at hours 0 and 1: the left ear HEARS both if he faces north at the first
        for (int side = 0; side < 4; side++) {
            OneEared x = Due.of(ROUND_ABOUT + "left 4 " + side + " 0 1;", "say 0 1 1;say 0 2 1;");
            due.is("start, facing " + side, x.bench(0, 0, NONE), (4 - side) % 4);
            OneEared back = Due.of(ROUND_ABOUT + "right 4 " + side + " 0 3;", "say 0 1 1;say 0 2 1;");
            due.is("start, turning back from " + side, back.bench(0, 0, NONE), side);
        }
        // who never turns, or nobody: the first hour
        due.is("start without turns", Due.of(ROUND_ABOUT + "left 4 2 0 0;", "say 2 1 1;").bench(0, 0, NONE), 0);
        due.is("start without judges", Due.of(ROUND_ABOUT, "say 2 1 1;").bench(0, 0, NONE), 0);
        due.is("judge 0 without judges", Due.of(ROUND_ABOUT, "say 2 1 1;").bench(0, 0, 0), NONE);
        // all judges, each by itself: at hour 1 two HEAR, at hours 0 and 2 one
        OneEared x = Due.of(ROUND_ABOUT + "left 4 0 0 1;left 4 3 0 1;right 4 3 0 1;", "say 0 1 1;");
        due.is("start for most", x.bench(0, 0, NONE), 1);
        // with turns by two the first of two hours
        x = Due.of(ROUND_ABOUT + "left 4 2 0 2;", "say 0 1 1;");
        due.is("start, the first of two", x.bench(0, 0, NONE), 1);
    }

    // ---- promises 32 and 33 ----

    private void idle() {
        OneEared x = Due.of(THREE, "say 0 1 0;say 1 2 0;say 2 9 0;", "yes 1 -;no 2 -;yes - -;no - -;yes 1 -;no 2 -;yes 9 -;no 0 -;");
        due.is("three are used", x.idle(0, 0, 0), 255 - 7);
        String[] laws = {"", "yes 3 -;", "yes - -;", "no 3 -;no 9 -;", "yes 3 -;no 3 -;yes 3 -;no 3 -;yes 3 -;no 3 -;yes 3 -;no 9 -;",
            "yes - 1;no - 2;yes - 9;"};
        int[] idle = {0, 1, 0, 1, 127, 4};
        for (int i = 0; i < laws.length; i++) {
            Due.tell(x, Due.LAW, 0, laws[i]);
            due.is("idle of '" + laws[i] + "'", x.idle(0, 0, 0), idle[i]);
        }
        due.is("without judges all eight", Due.of("", "", "yes - -;".repeat(8)).idle(0, 0, 0), 255);
        // behind all DEEDS: word 9 is said behind STOP
        x = Due.of(THREE, "go 0 0;say 2 9 0;", "yes 9 -;");
        due.is("behind STOP", x.idle(0, 0, 0), 1);
    }

    private void persuade(OneEared x, String law, int yes, int no) {
        Due.tell(x, Due.LAW, 0, law);
        due.is("to yes by '" + law + "'", x.persuade(0, 0, 0, 1), yes);
        due.is("to no by '" + law + "'", x.persuade(0, 0, 0, 0), no);
        for (int verdict : new int[] {Integer.MIN_VALUE, -2, NONE, 2, Integer.MAX_VALUE}) {
            due.is("to " + verdict + " by '" + law + "'", x.persuade(0, 0, 0, verdict), NONE);
        }
    }

    private void persuade() {
        OneEared x = Due.of(THREE, "say 0 1 0;", "");
        persuade(x, "", NONE, NONE);
        persuade(x, "yes - -;", 0, NONE);
        persuade(x, "no - -;", NONE, 0);
        persuade(x, "yes 0 -;no - -;", 1, 0);
        persuade(x, "yes 9 -;no - -;", 512, 0);
        persuade(x, "no 9 -;yes - -;", 0, 512);
        // of several the least number: 5 before 8; fewest before least: 9 before 0 and 1
        persuade(x, "yes 8 -;yes 5 -;no - -;", 32, 0);
        persuade(x, "no - 9;yes 9 -;", 512, 0);
        persuade(x, "yes 9 -;no - 0;no - 2;yes - -;", 512, 0);
        persuade(x, "no - 0;no - 2;yes 3 -;", 1 + 4 + 8, 0);
        // a WORD that they KNOW already can't be taken from them, but told to all it is new to some
        persuade(x, "no - 1;yes - -;", 2, 0);
        persuade(x, "yes 1 -;", 0, NONE);
        persuade(x, "yes - 1;", 0, NONE);
        persuade(x, "no 1 -;yes 2 -;", 4, 0);
        // many WORDS at once
        persuade(x, "no 2 -;no 4 -;no - 0;no - 9;no - 3;yes 5 -;", 1 + 8 + 32 + 512, 0);
        persuade(x, "no - 0;no - 1;no - 2;yes 3 -;", 15, 0);
        persuade(x, "no - 2;no - 3;no - 4;no - 5;no - 6;no - 7;no - 8;yes 9 0;", 1020, 0);
        // two judges, even: a word makes one of them vote otherwise, or not at all
        OneEared two = Due.of("left 0 0 0 0;left 1 0 0 0;plead 0;plead 1;", "say 0 1 0;say 1 2 0;", "");
        persuade(two, "yes 1 -;no 2 -;", 2, NONE);
        persuade(two, "yes 1 2;no 2 -;", NONE, 4);
        persuade(two, "no 2 4;yes 1 3;", 16, 4);
        OneEared none = Due.of("", "", "");
        persuade(none, "yes - -;", NONE, NONE);
    }

    // ---- promises 35 and 36 ----

    private void mouth(String court, String trial, int pleader, int many) {
        OneEared x = Due.of(court, trial);
        due.is("mouth of '" + trial + "'", x.mouth(0, 0, false), pleader);
        due.is("mouth of '" + trial + "', many", x.mouth(0, 0, true), many);
    }

    private void mouths() {
        // two judges on 0, one on 1; pleader 0 on 2, whom nobody HEARS by loud 0, the others on 0, 1, 0
        String court = "left 0 0 0 0;left 0 0 0 0;left 1 0 0 0;plead 2;plead 0;plead 1;plead 0;";
        mouth(court, "", NONE, NONE);
        mouth(court, "wait;say 0 1 0;", NONE, NONE);
        mouth(court, "say 1 1 0;", 1, 2);
        mouth(court, "say 2 1 0;", 2, 1);
        mouth(court, "say 3 1 0;", 3, 2);
        mouth(court, "say 3 1 0;say 2 1 0;say 1 1 0;", 1, 2);
        mouth(court, "say 2 1 0;say 2 1 0;say 3 1 0;", 2, 2);
        mouth(court, "say 2 1 0;say 2 1 0;say 2 1 0;say 3 1 0;", 2, 3);
        mouth(court, "say 2 1 0;say 2 1 0;say 2 1 0;say 3 1 0;say 3 2 0;", 3, 4);
        // what is said behind STOP does not count
        mouth(court, "say 2 1 0;go 2 0;say 3 1 0;", 2, 1);
        mouth(court, "go 1 0;say 1 1 0;", NONE, NONE);
        // by a TWIN: a judge counts once a DEED
        mouth("left 0 0 0 0;plead 0;twin 0 0;plead 3;twin 1 0;", "say 1 1 0;", 1, 1);
        mouth("left 0 0 0 0;plead 0;twin 0 0;plead 3;twin 1 0;", "say 1 1 0;say 0 1 0;", 0, 1);
        // nobody HEARS, and nobody is there
        mouth("plead 0;", "say 0 1 0;", NONE, NONE);
        mouth("", "", NONE, NONE);
        mouth("plead 0;" + "left 0 0 0 0;".repeat(6), "say 0 1 0;".repeat(30), 0, 180);
    }

    private void rift(OneEared x, int a, int b, int words) {
        int[] told = {a, b, words};
        for (int what = 0; what < 3; what++) {
            due.is("rift " + what, x.rift(0, 0, what), told[what]);
        }
        due.is("rift 3", x.rift(0, 0, 3), NONE);
        due.is("rift -1", x.rift(0, 0, -1), NONE);
    }

    private void rifts() {
        rift(Due.of("", ""), NONE, NONE, NONE);
        rift(Due.of("left 0 0 0 0;plead 0;", "say 0 1 0;"), NONE, NONE, NONE);
        rift(Due.of("left 0 0 0 0;left 0 0 0 0;plead 0;", "say 0 1 0;"), 0, 1, 0);
        rift(Due.of("left 0 0 0 0;left 1 0 0 0;plead 0;", "say 0 1 0;say 0 9 0;say 0 9 0;"), 0, 1, 2);
        // of several the first by rows: 0 and 2 before 1 and 2
        rift(Due.of(THREE, "say 2 1 0;"), 0, 2, 1);
        rift(Due.of(THREE, "say 1 1 0;"), 0, 1, 1);
        rift(Due.of(THREE, "say 0 1 0;say 1 2 0;say 2 3 0;"), 0, 1, 2);
        // just one of both KNOWS: 0 has 1 and 2, 1 has 2 and 3, 2 has 3
        rift(Due.of(THREE, "say 0 1 0;say 0 2 0;say 1 2 0;say 1 3 0;say 2 3 0;"), 0, 2, 3);
        rift(Due.of(THREE, "say 1 1 0;say 1 2 0;say 0 1 0;say 2 3 0;"), 1, 2, 3);
        String six = "left 0 0 0 0;".repeat(4) + "left 1 0 0 0;left 2 0 0 0;plead 1;plead 2;";
        rift(Due.of(six, "say 0 1 0;say 1 2 0;"), 4, 5, 2);
        rift(Due.of(six, "say 1 2 0;"), 0, 5, 1);
    }

    // ---- all that is asked behind all DEEDS, if there are as many as may be ----

    private void thirtiethDeed() {
        // only the thirtieth DEED, at hour 29, says something: from the west, where the left ear is
        String trial = "wait;".repeat(29) + "say 3 7 1;";
        OneEared x = Due.of(ROUND_ABOUT + "left 4 0 0 0;right 4 0 0 0;", trial, "yes 7 -;", "know 0 7;know 1 7;");
        due.is("stop", x.stop(0, 0), 30);
        due.is("knows behind 29", x.knows(0, 0, 29, 0), 0);
        due.is("knows behind 30", x.knows(0, 0, 30, 0), 128);
        due.is("heard", x.heard(0, 0, 29), 1);
        due.is("verdict", x.votes(0, 0, 0, NONE), 1);
        due.is("sway", x.sway(0, 0, 0, 0), 1);
        due.is("tips", x.sway(0, 0, 0, 1), 1);
        due.is("idle", x.idle(0, 0, 0), 0);
        due.is("persuade to yes", x.persuade(0, 0, 0, 1), 0);
        due.is("persuade to no", x.persuade(0, 0, 0, 0), NONE);
        due.is("sold", x.sold(0, 0, 0, false), 1);
        due.is("sold, the other", x.sold(0, 0, 1, false), 0);
        due.is("third", x.sold(0, 0, 0, true), 0);
        due.is("third, the other", x.sold(0, 0, 1, true), 1);
        due.is("dearest", x.sold(0, 0, NONE, false), 0);
        due.is("seats", x.seats(0, 0, NONE), 1);
        due.is("bench", x.bench(0, 0, 0), 0);
        due.is("bench, the other", x.bench(0, 0, 1), 2);
        due.is("start", x.bench(0, 0, NONE), 0);
        due.is("liar", x.lips(0, 0, 0, 0), 2);
        due.is("drawn by 0", x.drawn(0, 0, 5, 0, 0), 1);
        due.is("drawn by 0, what", x.drawn(0, 0, 5, 0, 10), 128);
        due.is("drawn by 100, hours", x.drawn(0, 0, 5, 100, 1), 30);
        due.is("mouth", x.mouth(0, 0, false), 3);
        due.is("mouth, many", x.mouth(0, 0, true), 1);
        due.is("rift", x.rift(0, 0, 2), 1);
        // who turns by one faces east at hour 29, and the west is ahead of him or to his left at hours 31 and 32
        x = Due.of(ROUND_ABOUT + "left 4 0 0 1;", trial);
        due.is("start of who turns", x.bench(0, 0, NONE), 2);
        // the seat that faces west has the judge whose REACH is enough at that hour
        x = Due.of(ROUND_ABOUT + "left 4 3 0 0;left 0 0 1 0;", "wait;".repeat(29) + "say 3 7 0;");
        due.is("seats, who needs REACH", x.seats(0, 0, 1), 0);
        due.is("seats, known", x.seats(0, 0, NONE), 1);
    }

    // ---- a COURT without anybody, a TRIAL without anything ----

    private void nobodyThere() {
        OneEared x = Due.of("", "", "", "");
        due.is("stop", x.stop(0, 0), 0);
        due.is("common", x.knows(0, 0, 0, NONE), 0);
        due.is("lost", x.knows(0, 0, 0, -2), 0);
        due.is("knows", x.knows(0, 0, 0, 0), NONE);
        due.is("heard", x.heard(0, 0, 0), NONE);
        due.is("stands", x.stands(0, 0, 0, 0, false), -2);
        due.is("verdict", x.votes(0, 0, 0, NONE), NONE);
        due.is("vote", x.votes(0, 0, 0, 0), -2);
        due.is("sway", x.sway(0, 0, 0, 0), 0);
        due.is("dearest", x.sold(0, 0, NONE, false), NONE);
        due.is("seats", x.seats(0, 0, NONE), 0);
        due.is("start", x.bench(0, 0, NONE), 0);
        due.is("idle", x.idle(0, 0, 0), 0);
        due.is("persuade", x.persuade(0, 0, 0, 1), NONE);
        due.is("mouth", x.mouth(0, 0, false), NONE);
        due.is("rift", x.rift(0, 0, 2), NONE);
        due.is("liar", x.lips(0, 0, 0, 0), 0);
        due.is("drawn", x.drawn(0, 0, 0, 100, 0), 0);
        due.is("drawn, hours", x.drawn(0, 0, 0, 100, 1), 0);
        due.is("near", x.near(0, 0, 0, 0), NONE);
        due.is("round", x.round(0, 0, 0, 0), NONE);
    }

    // what one call was asked about is nothing to the next: other courts, other trials
    private void afterOthers() {
        OneEared x = Due.of("size 3 2;left 0 0 0 0;plead 0;twin 0 0;", "say 0 1 0;say 0 2 0;say 0 3 0;", "yes 1 -;", "know 0 1;");
        Due.tell(x, Due.COURT, "size 2 3;left 5 0 0 0;left 5 0 0 0;plead 0;plead 5;");
        Due.tell(x, Due.TRIAL, "wait;say 1 4 0;go 0 0;say 0 3 0;");
        for (int i = 0; i < 2; i++) {
            due.is("court 0, trial 0", x.knows(0, 0, 3, 0), 14);
            due.is("court 1, trial 1", x.knows(1, 1, 2, 1), 16);
            due.is("court 1, trial 0", x.knows(1, 0, 3, 1), 0);
            due.is("court 0, trial 1", x.stop(0, 1), 1);
            due.is("court 1, trial 1, stop", x.stop(1, 1), 2);
            due.is("lips in court 1, trial 1", x.lips(1, 1, 0, 0), 1);
            due.is("drawn", x.drawn(0, 0, 0, 100, 10), 14);
            due.is("idle in court 1, trial 1", x.idle(1, 1, 0), 1);
            due.is("idle in court 0, trial 0", x.idle(0, 0, 0), 0);
            due.is("persuade in court 1, trial 1", x.persuade(1, 1, 0, 1), 2);
            due.is("persuade in court 0, trial 0", x.persuade(0, 0, 0, 1), 0);
            due.is("mouth in court 1, trial 1", x.mouth(1, 1, true), 2);
            due.is("seats in court 1, trial 1", x.seats(1, 1, NONE), 2);
            due.is("seats in court 0, trial 0", x.seats(0, 0, NONE), 3);
            due.is("round in court 0", x.round(0, 0, 0, 0), 1);
            due.is("round in court 1", x.round(1, 0, 0, 0), 4);
            due.is("round in court 1, at once", x.round(1, 1, 0, 0), 1);
        }
    }
}
