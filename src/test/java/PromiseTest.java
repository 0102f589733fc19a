/** For each promise, answers worked out by hand: ordinary ones, the edges, wrong inputs. */
final class PromiseTest {
    private static final int NONE = OneEared.NONE;

    //   0  1  2  3     judge 0 on 0, left ear, faces east for good, reach 3
    //   4  #  6  7     judge 1 on 11, right ear, faces north at hour 0, turns by 1, reach 2
    //   8  9 10 11     pleader 0 on 8 with a twin on 3, pleader 1 on 2
    static final String COURT = "size 4 3;wall 5;left 0 1 3 0;right 11 0 2 1;plead 8;twin 0 3;plead 2;";
    // deed 6 can't be: 5 is a wall
    static final String TRIAL = "say 0 4 0;say 1 3 1;go 0 0;wait;say 0 4 3;go 1 3;go 1 2;";
    static final String LAW = "yes 3 -;no 4 3;yes - -;";
    static final String ROLL = "know 0 3;know 1 3;know 1 4;know 4 0;";

    private final Due due = new Due();

    public static void main(String[] args) {
        PromiseTest test = new PromiseTest();
        test.newObject();
        test.feedAndEnd();
        test.textNumbers();
        test.textFaults();
        test.firstFault();
        test.courtFaults();
        test.courts();
        test.judgesAndPleaders();
        test.farAndComes();
        test.earsAndPulpit();
        test.nearRoundEcho();
        test.longRounds();
        test.hushAndAreas();
        test.deeds();
        test.states();
        test.knowing();
        test.laws();
        test.swaying();
        test.soldEars();
        test.seating();
        test.rolls();
        test.thunder();
        test.benches();
        test.mouthAndRift();
        test.imagesOfAll();
        test.missingCourts();
        test.due.close();
    }

    private static OneEared sample() {
        return Due.of(COURT, TRIAL, LAW, ROLL);
    }

    // promise 1, and of 5 and 37 what a new object answers
    private void newObject() {
        OneEared x = new OneEared();
        for (int sort = 0; sort < 4; sort++) {
            due.is("new count(" + sort + ")", x.count(sort), 0);
        }
        for (int k = 0; k < 3; k++) {
            due.is("new again(" + k + ")", x.again(k), false);
        }
        due.is("new fault(0)", x.fault(0), 0);
        due.is("new fault(1)", x.fault(1), NONE);
        due.is("new end(0)", x.end(0), 0);
        due.is("new end(1)", x.end(1), NONE);
        due.is("NONE", OneEared.NONE, -1);
    }

    // promises 2 and 3
    private void feedAndEnd() {
        OneEared x = new OneEared();
        for (int i = 1; i <= 30; i++) {
            due.is("feed " + i, x.feed(i, -i, 0, 0, 0), 20 * i);
        }
        due.is("feed 31", x.feed(0, 0, 0, 0, 0), NONE);
        due.is("end(601)", x.end(601), NONE);
        due.is("end(-1)", x.end(-1), NONE);
        due.is("end(600)", x.end(600), 600);
        due.is("end(581)", x.end(581), 581);
        due.is("feed over the end", x.feed(0, 0, 0, 0, 0), NONE);
        due.is("end(580)", x.end(580), 580);
        due.is("end(581) again", x.end(581), NONE);
        due.is("feed up to the end", x.feed(0, 0, 0, 0, 0), 600);
        due.is("end(0)", x.end(0), 0);
        // 'wall', ' 3;\n' and blanks: the highest byte of each number comes first
        due.is("feed wall", x.feed(0x77616c6c, 0x20333b0a, 0x20202020, 0x0a0a0a0a, 0x20202020), 20);
        due.is("text of wall", x.text(0, NONE), 0);
        due.is("wall 3", x.wall(0, 3), true);
        due.is("the tape is empty", x.end(1), NONE);
    }

    // promise 4
    private void textNumbers() {
        String[] texts = {COURT, TRIAL, LAW, ROLL};
        OneEared x = new OneEared();
        for (int sort = 0; sort < 4; sort++) {
            due.is("text in the place of none", Due.tell(x, sort, 0, texts[sort]), -2);
            due.is("text, first", Due.tell(x, sort, texts[sort]), 0);
            due.is("text in the place of a missing one", Due.tell(x, sort, 1, texts[sort]), -2);
            due.is("text, empty, is a second", Due.tell(x, sort, ""), 1);
            due.is("text, third", Due.tell(x, sort, ""), -2);
            due.is("text in the place of 0", Due.tell(x, sort, 0, ""), 0);
            due.is("text in the place of 1", Due.tell(x, sort, 1, texts[sort]), 1);
            due.is("text in the place of 2", Due.tell(x, sort, 2, ""), -2);
            due.is("text in the place of -2", Due.tell(x, sort, -2, ""), -2);
            due.is("count", x.count(sort), 2);
        }
        due.is("empty court, W", x.court(0, 0), 5);
        due.is("empty court, H", x.court(0, 1), 5);
        due.is("told court, W", x.court(1, 0), 4);
        due.is("empty trial", x.deed(0, NONE, 0), 0);
        due.is("told trial", x.deed(1, NONE, 0), 7);
        due.is("sort 4", Due.tell(x, 4, COURT), -2);
        due.is("sort 4, tape", x.end(1), NONE);
        due.is("sort -1", Due.tell(x, -1, COURT), -2);
        due.is("a fault keeps what is there", Due.tell(x, 0, 1, "wall 64;"), NONE);
        due.is("fault 2", x.fault(0), 2);
        due.is("still W", x.court(1, 0), 4);
        due.is("still 2", x.count(0), 2);
        due.is("behind a fault the tape is empty", x.end(1), NONE);
        due.is("no text is read", Due.tell(x, 0, "wall 64;"), -2);
        due.is("FAULT 0", x.fault(0), 0);
        due.is("no place", x.fault(1), NONE);
        due.is("fault(2)", x.fault(2), NONE);
        due.is("fault(-1)", x.fault(-1), NONE);
    }

    // promises 4 and 5: FAULT 1 and what is none
    private void textFaults() {
        due.faultOf(0, "  \n ", 0, NONE);
        due.faultOf(0, "wall1 2;plead3;\nsize 8\n8 ;", 0, NONE);
        due.faultOf(0, "wall 01 02 3 4 5 6 7 8 9 10;", 0, NONE);
        due.faultOf(0, "wall;", 1, 4);
        due.faultOf(0, "wall 1", 1, 6);
        due.faultOf(0, "wall 1 \n", 1, 8);
        due.faultOf(0, "wall 1 -;", 1, 7);
        due.faultOf(0, "wall 123;", 1, 5);
        due.faultOf(0, "walls 1;", 1, 0);
        due.faultOf(0, " wal 1;", 1, 1);
        due.faultOf(0, "wall 1;;", 1, 7);
        due.faultOf(0, "wall 1\t;", 1, 6);
        due.faultOf(0, "wall 1;Wall 2;", 1, 7);
        due.faultOf(0, "wall 1;\u00e9", 1, 7);
        due.faultOf(0, "7 wall 1;", 1, 0);
        due.faultOf(0, "size 4;", 1, 6);
        due.faultOf(0, "size 4 4 4;", 1, 9);
        due.faultOf(0, "left 1 1 1;", 1, 10);
        due.faultOf(0, "twin 0;", 1, 6);
        due.faultOf(0, "plead 0 1;", 1, 8);
        due.faultOf(0, "go 0 1;", 1, 0);
        due.faultOf(1, "wait;say 0 1 1;go 3 3;", 0, NONE);
        due.faultOf(1, "wait 1;", 1, 5);
        due.faultOf(1, "say 0 0;", 1, 7);
        due.faultOf(1, "go 0 -;", 1, 5);
        due.faultOf(1, "wall 1;", 1, 0);
        due.faultOf(2, "yes - -;no 0 9;yes 3 -;no - 3;yes--;", 0, NONE);
        due.faultOf(2, "yes -;", 1, 5);
        due.faultOf(2, "yes - - -;", 1, 8);
        due.faultOf(2, "maybe - -;", 1, 0);
        due.faultOf(3, "know 0 3;know 5 9;", 0, NONE);
        due.faultOf(3, "know 0 -;", 1, 7);
        due.faultOf(3, "know 0;", 1, 6);
        // what end() cut off is not read
        OneEared x = new OneEared();
        Due.put(x, "wall 123;".getBytes(), 0);
        due.is("cut in a number", x.end(6), 6);
        due.is("text, cut in a number", x.text(0, NONE), NONE);
        due.is("fault, cut in a number", x.fault(0), 1);
        due.is("place, cut in a number", x.fault(1), 6);
        Due.put(x, "wait;waiting".getBytes(), 0);
        due.is("cut in a word", x.end(9), 9);
        due.is("text, cut in a word", x.text(1, NONE), NONE);
        due.is("place, cut in a word", x.fault(1), 9);
    }

    // promise 5: FAULTS 2 and 3, and which of all is told
    private void firstFault() {
        due.faultOf(0, "size 1 5;", 2, 5);
        due.faultOf(0, "size 5 9;", 2, 7);
        due.faultOf(0, "size 2 8;", 0, NONE);
        due.faultOf(0, "wall 3 64;", 2, 7);
        due.faultOf(0, "left 64 0 0 0;", 2, 5);
        due.faultOf(0, "left 0 4 0 0;", 2, 7);
        due.faultOf(0, "right 0 0 10 0;", 2, 10);
        due.faultOf(0, "right 0 0 9 4;", 2, 12);
        due.faultOf(0, "plead 64;", 2, 6);
        due.faultOf(0, "twin 4 0;", 2, 5);
        due.faultOf(0, "plead 0;twin 0 64;", 2, 15);
        due.faultOf(0, "size 9 64;wall 99;", 2, 5);
        due.faultOf(0, "wall 99;wall", 1, 12);
        due.faultOf(0, "wall 30;wall 99;", 2, 13);
        due.faultOf(0, "left 0 0 0 0;".repeat(6), 0, NONE);
        due.faultOf(0, "left 0 0 0 0;right 0 0 0 0;".repeat(3) + "left 0 0 0 0;", 3, 81);
        due.faultOf(0, "left 0 9 0 0;" + "right 0 0 0 0;".repeat(6), 2, 7);
        due.faultOf(0, "left 0 0 0 0;".repeat(6) + "left 0 9 0 0;", 3, 78);
        due.faultOf(0, "plead 0;".repeat(4), 0, NONE);
        due.faultOf(0, "plead 0;".repeat(5), 3, 32);
        due.faultOf(0, "plead 0;".repeat(5) + "x", 1, 40);
        due.faultOf(1, "go 4 0;", 2, 3);
        due.faultOf(1, "go 0 4;", 2, 5);
        due.faultOf(1, "say 4 0 0;", 2, 4);
        due.faultOf(1, "say 0 10 0;", 2, 6);
        due.faultOf(1, "say 0 0 10;", 2, 8);
        due.faultOf(1, "wait;".repeat(30), 0, NONE);
        due.faultOf(1, "wait;".repeat(31), 3, 150);
        due.faultOf(1, "go 0 4;" + "wait;".repeat(30), 2, 5);
        due.faultOf(2, "yes 10 -;", 2, 4);
        due.faultOf(2, "yes - 10;", 2, 6);
        due.faultOf(2, "no - -;".repeat(8), 0, NONE);
        due.faultOf(2, "no - -;".repeat(9), 3, 56);
        due.faultOf(3, "know 6 0;", 2, 5);
        due.faultOf(3, "know 5 10;", 2, 7);
        due.faultOf(3, "know 0 0;".repeat(12), 0, NONE);
        due.faultOf(3, "know 0 0;".repeat(13), 3, 108);
    }

    // promise 5: FAULT 4, and what a later line strikes
    private void courtFaults() {
        due.faultOf(0, "wall 25;", 4, 8);
        due.faultOf(0, "wall 24; \n", 0, NONE);
        due.faultOf(0, "wall 25; \n", 4, 10);
        due.faultOf(0, "wall 25;size 6 5;", 0, NONE);
        due.faultOf(0, "wall 24;size 2 2;", 4, 17);
        due.faultOf(0, "size 8 8;wall 63;", 0, NONE);
        due.faultOf(0, "left 25 0 0 0;", 4, 14);
        due.faultOf(0, "plead 25;", 4, 9);
        due.faultOf(0, "plead 0;twin 0 25;", 4, 18);
        due.faultOf(0, "twin 0 1;", 4, 9);
        due.faultOf(0, "twin 0 1;plead 2;", 0, NONE);
        due.faultOf(0, "plead 2;twin 1 1;", 4, 17);
        due.faultOf(0, "twin 3 1;twin 0 1;plead 2;", 4, 26);
        due.faultOf(0, "left 3 0 0 0;wall 3;", 4, 20);
        due.faultOf(0, "left 3 0 0 0;left 4 0 0 0;wall 3;", 4, 33);
        due.faultOf(0, "wall 3;plead 3;", 4, 15);
        due.faultOf(0, "wall 3;plead 3;plead 4;", 4, 23);
        due.faultOf(0, "wall 3;plead 2;twin 0 3;", 4, 24);
        due.faultOf(0, "wall 3;plead 2;twin 0 3;twin 0 4;", 0, NONE);
        // a FIELD that was told of and is not there, though the TWIN has another one
        due.faultOf(0, "plead 2;twin 0 30;twin 0 4;", 4, 27);
        // a court's FAULT is none of the next text's
        OneEared x = new OneEared();
        due.is("court in a wall", Due.tell(x, 0, "wall 3;plead 3;"), NONE);
        due.is("trial behind it", Due.tell(x, 1, "wait;"), 0);
        due.is("its fault", x.fault(0), 0);
    }

    // promises 6 and 7
    private void courts() {
        OneEared x = sample();
        int[] told = {4, 3, 1, 2, 2, 3, NONE};
        for (int what = 0; what < told.length; what++) {
            due.is("court(0, " + what + ")", x.court(0, what), told[what]);
        }
        due.is("court(0, -1)", x.court(0, -1), NONE);
        due.is("court(1, 0)", x.court(1, 0), NONE);
        due.is("court(-1, 0)", x.court(-1, 0), NONE);
        for (int field = -2; field < 70; field++) {
            due.is("wall(0, " + field + ")", x.wall(0, field), field == 5);
        }
        due.is("wall(1, 5)", x.wall(1, 5), false);
        x = Due.of("size 3 3;size 2 4;wall 1 2;wall 2 3;", "", "", "");
        due.is("the later size, W", x.court(0, 0), 2);
        due.is("the later size, H", x.court(0, 1), 4);
        due.is("a WALL told twice is one", x.court(0, 2), 3);
        due.is("without JUDGES the first hour", x.court(0, 5), 0);
        due.is("wall(0, 1)", x.wall(0, 1), true);
        due.is("wall(0, 65)", x.wall(0, 65), false);
        x = Due.of("wall 0;", "", "", "");
        due.is("wall 0", x.wall(0, 0), true);
        due.is("wall 64", x.wall(0, 64), false);
    }

    // promises 8 and 9
    private void judgesAndPleaders() {
        OneEared x = sample();
        int[][] told = {{0, 1, 0, 3, 0}, {11, 0, 1, 2, 1}};
        for (int j = 0; j < 2; j++) {
            for (int what = 0; what < 5; what++) {
                due.is("judge(0, " + j + ", " + what + ")", x.judge(0, j, what), told[j][what]);
            }
            due.is("judge what 5", x.judge(0, j, 5), NONE);
            due.is("judge what 9", x.judge(0, j, 9), NONE);
            due.is("judge what -1", x.judge(0, j, -1), NONE);
            due.is("judge hour 100", x.judge(0, j, 110), NONE);
        }
        due.is("he never turns", x.judge(0, 0, 109), 1);
        due.is("hour 0", x.judge(0, 1, 10), 0);
        due.is("hour 1", x.judge(0, 1, 11), 1);
        due.is("hour 6", x.judge(0, 1, 16), 2);
        due.is("hour 99", x.judge(0, 1, 109), 3);
        due.is("judge 2", x.judge(0, 2, 0), NONE);
        due.is("judge -1", x.judge(0, -1, 0), NONE);
        due.is("judge of no court", x.judge(1, 0, 0), NONE);
        due.is("turned by 3", Due.of("left 0 2 0 3;", "", "", "").judge(0, 0, 12), 0);
        due.is("pleader 0", x.pleader(0, 0, false), 8);
        due.is("twin 0", x.pleader(0, 0, true), 3);
        due.is("pleader 1", x.pleader(0, 1, false), 2);
        due.is("twin 1", x.pleader(0, 1, true), NONE);
        due.is("pleader 2", x.pleader(0, 2, false), -2);
        due.is("pleader -1", x.pleader(0, -1, true), -2);
        due.is("pleader of no court", x.pleader(1, 0, false), -2);
        x = Due.of("plead 1;twin 0 2;twin 0 3;", "", "", "");
        due.is("the later twin", x.pleader(0, 0, true), 3);
    }

    // promises 10 and 11
    private void farAndComes() {
        OneEared x = sample();
        due.is("far 4 6", x.far(0, 4, 6), 4);
        due.is("far 6 4", x.far(0, 6, 4), 4);
        due.is("far 1 9", x.far(0, 1, 9), 4);
        due.is("far 7 7", x.far(0, 7, 7), 0);
        due.is("far to a wall", x.far(0, 0, 5), NONE);
        due.is("far from a wall to it", x.far(0, 5, 5), NONE);
        due.is("far 12", x.far(0, 0, 12), NONE);
        due.is("far -1", x.far(0, -1, 0), NONE);
        due.is("far of no court", x.far(1, 0, 0), NONE);
        due.is("far, cut off", Due.of("size 3 2;wall 1 4;", "", "", "").far(0, 0, 2), NONE);
        due.is("comes from ahead", x.comes(0, 0, 6, 0), 1);
        due.is("comes from his right", x.comes(0, 0, 8, 0), 2);
        due.is("comes from ahead and left", x.comes(0, 1, 6, 0), 9);
        due.is("comes from left and behind", x.comes(0, 1, 6, 1), 12);
        due.is("comes from behind and right", x.comes(0, 1, 6, 98), 6);
        due.is("comes from ahead and right", x.comes(0, 1, 6, 99), 3);
        due.is("comes from himself", x.comes(0, 1, 11, 7), 15);
        due.is("comes at hour 100", x.comes(0, 0, 6, 100), NONE);
        due.is("comes at hour -1", x.comes(0, 0, 6, -1), NONE);
        due.is("comes from a wall", x.comes(0, 0, 5, 0), NONE);
        due.is("comes from nowhere", x.comes(0, 0, 12, 0), NONE);
        due.is("comes to no judge", x.comes(0, 2, 0, 0), NONE);
        due.is("comes in no court", x.comes(1, 0, 0, 0), NONE);
        due.is("comes, cut off", Due.of("size 3 2;wall 1 4;left 0 0 0 0;", "", "", "").comes(0, 0, 2, 0), NONE);
        due.is("comes, all around", Due.of("size 3 3;right 4 0 0 0;", "", "", "").comes(0, 0, 0, 0), 9);
        due.is("no round the edge", Due.of("size 2 2;right 1 0 0 0;", "", "", "").comes(0, 0, 2, 0), 12);
    }

    // promises 12 and 13
    private void earsAndPulpit() {
        OneEared x = sample();
        due.is("ears 3", x.ears(0, 3, 0, 0), 3);
        due.is("ears 7", x.ears(0, 7, 0, 0), 2);
        due.is("ears 7, louder", x.ears(0, 7, 0, 1), 3);
        due.is("ears 8", x.ears(0, 8, 0, 9), 0);
        due.is("ears 8 at hour 3", x.ears(0, 8, 3, 0), 0);
        due.is("ears 8 at hour 3, louder", x.ears(0, 8, 3, 1), 2);
        due.is("ears 8 at hour 99", x.ears(0, 8, 99, 1), 2);
        due.is("ears on his own field", x.ears(0, 11, 1, 0), 2);
        due.is("ears of a wall", x.ears(0, 5, 0, 0), NONE);
        due.is("ears of no field", x.ears(0, 12, 0, 0), NONE);
        due.is("ears at hour 100", x.ears(0, 3, 100, 0), NONE);
        due.is("ears at hour -1", x.ears(0, 3, -1, 0), NONE);
        due.is("ears by loud 10", x.ears(0, 3, 0, 10), NONE);
        due.is("ears by loud -1", x.ears(0, 3, 0, -1), NONE);
        due.is("ears in no court", x.ears(1, 3, 0, 0), NONE);
        due.is("pulpit", x.pulpit(0, 0, 0, false), 3);
        due.is("pulpit, many", x.pulpit(0, 0, 0, true), 2);
        due.is("pulpit at hour 1", x.pulpit(0, 1, 0, false), 0);
        due.is("pulpit at hour 1, many", x.pulpit(0, 1, 0, true), 1);
        due.is("pulpit at hour 100", x.pulpit(0, 100, 0, false), NONE);
        due.is("pulpit by loud 10", x.pulpit(0, 0, 10, true), NONE);
        due.is("pulpit of no court", x.pulpit(1, 0, 0, true), NONE);
        x = Due.of("wall 0;", "", "", "");
        due.is("pulpit without judges", x.pulpit(0, 0, 0, false), 1);
        due.is("pulpit without judges, many", x.pulpit(0, 0, 0, true), 0);
        x = Due.of("size 2 2;wall 0 1 2 3;", "", "", "");
        due.is("pulpit, all walls", x.pulpit(0, 0, 0, false), NONE);
        due.is("pulpit, all walls, many", x.pulpit(0, 0, 0, true), NONE);
    }

    // promises 14, 15 and 16
    private void nearRoundEcho() {
        OneEared x = sample();
        due.is("near", x.near(0, 0, 0, 0), 2);
        due.is("near 1", x.near(0, 1, 0, 0), 3);
        due.is("near of the other", x.near(0, 1, 1, 0), 1);
        due.is("near, louder", x.near(0, 1, 1, 1), 0);
        due.is("near of no judge", x.near(0, 2, 0, 0), NONE);
        due.is("near of no pleader", x.near(0, 0, 2, 0), NONE);
        due.is("near by loud 10", x.near(0, 0, 0, 10), NONE);
        due.is("near in no court", x.near(1, 0, 0, 0), NONE);
        OneEared cut = Due.of("size 3 2;wall 1 4;left 0 0 9 0;plead 2;", "", "", "");
        due.is("near, cut off", cut.near(0, 0, 0, 9), NONE);
        due.is("round, cut off", cut.round(0, 0, 9, 0), NONE);
        due.is("round, cut off, way", cut.round(0, 0, 9, 10), NONE);
        // 2 is north of 6, the only field from which both hear at hour 2
        due.is("round", x.round(0, 1, 0, 0), 3);
        int[] way = {2, 4, 4, NONE, NONE};
        for (int i = 0; i < way.length; i++) {
            due.is("round, hour " + i, x.round(0, 1, 0, 10 + i), way[i]);
        }
        due.is("round at once", x.round(0, 1, 1, 0), 1);
        due.is("round at once, way", x.round(0, 1, 1, 10), 4);
        due.is("round what 1", x.round(0, 1, 0, 1), NONE);
        due.is("round what 9", x.round(0, 1, 0, 9), NONE);
        due.is("round what -1", x.round(0, 1, 0, -1), NONE);
        due.is("round hour 60", x.round(0, 1, 0, 70), NONE);
        due.is("round by loud -1", x.round(0, 1, -1, 0), NONE);
        due.is("round of no pleader", x.round(0, 2, 0, 0), NONE);
        due.is("round in no court", x.round(1, 0, 0, 0), NONE);
        due.is("round without judges", Due.of("plead 0;", "", "", "").round(0, 0, 0, 0), NONE);
        due.is("echo", x.echo(0, 0, 1, 0), 2);
        due.is("echo turned", x.echo(0, 1, 0, 0), 2);
        due.is("echo of one", x.echo(0, 0, NONE, 0), 5);
        due.is("echo of the other", x.echo(0, 1, NONE, 0), 4);
        due.is("blind", x.echo(0, NONE, NONE, 0), 4);
        due.is("echo of one judge twice", x.echo(0, 1, 1, 0), NONE);
        due.is("echo of none first", x.echo(0, NONE, 1, 0), NONE);
        due.is("echo of no judge", x.echo(0, 0, 2, 0), NONE);
        due.is("echo of -2", x.echo(0, -2, NONE, 0), NONE);
        due.is("echo by loud 10", x.echo(0, 0, 1, 10), NONE);
        due.is("blind by loud 10", x.echo(0, NONE, NONE, 10), NONE);
        due.is("blind in no court", x.echo(1, NONE, NONE, 0), NONE);
        due.is("blind, all walls", Due.of("size 2 2;wall 0 1 2 3;", "", "", "").echo(0, NONE, NONE, 0), 0);
    }

    // promise 15: the way first by rows, long ways, the last hour that counts
    private void longRounds() {
        // from 2, at hour 1, he would be heard, too; but going north stands before waiting
        OneEared x = Due.of("size 2 2;right 0 0 9 1;plead 2;", "", "", "");
        due.is("round to his field", x.round(0, 0, 0, 0), 2);
        due.is("round to his field, first", x.round(0, 0, 0, 10), 0);
        due.is("round to his field, then", x.round(0, 0, 0, 11), 4);
        // judges who HEAR just their own fields: says on 4, goes north twice, says on 0
        x = Due.of("size 2 3;wall 3;left 0 3 0 0;left 4 2 0 0;wall 5;plead 4;twin 0 0;", "", "", "");
        int[] way = {4, 0, 0, 4};
        due.is("round of two", x.round(0, 0, 0, 0), 4);
        for (int i = 0; i < way.length; i++) {
            due.is("round of two, hour " + i, x.round(0, 0, 0, 10 + i), way[i]);
        }
        x = Due.of("size 8 8;wall 8 9 10 11 12 13 14;wall 25 26 27 28 29 30 31;wall 40 41 42 43 44 45 46;"
                + "left 56 3 0 0;left 0 0 0 0;plead 0;plead 32;", "", "", "");
        due.is("far through the teeth", x.far(0, 0, 56), 35);
        due.is("comes through the teeth", x.comes(0, 0, 0, 0), 6);
        due.is("comes through the teeth, back", x.comes(0, 1, 56, 0), 2);
        due.is("round through the teeth", x.round(0, 0, 0, 0), 37);
        due.is("round through the teeth, first", x.round(0, 0, 0, 10), 4);
        due.is("round through the teeth, last step", x.round(0, 0, 0, 45), 3);
        due.is("round through the teeth, last", x.round(0, 0, 0, 46), 4);
        due.is("round through the teeth, behind it", x.round(0, 0, 0, 47), NONE);
        due.is("round from the middle", x.round(0, 1, 0, 0), 54);
        // a comb of four rows, a judge at each row's eastern end: 34 steps in all, each twice
        // but for those to the last judge, and four words
        x = Due.of("size 8 8;wall 9 10 11 12 13 14 15 25 26 27 28 29 30 31 41 42 43 44 45 46 47;"
                + "wall 56 57 58 59 60 61 62 63;left 7 1 0 0;left 23 1 0 0;left 39 1 0 0;left 55 1 0 0;"
                + "plead 16;plead 17;plead 18;", "", "", "");
        due.is("round, 61 hours", x.round(0, 0, 0, 0), NONE);
        due.is("round, 61 hours, first", x.round(0, 0, 0, 10), NONE);
        due.is("round, 60 hours", x.round(0, 1, 0, 0), 60);
        due.is("round, 60 hours, first", x.round(0, 1, 0, 10), 1);
        due.is("round, 60 hours, word", x.round(0, 1, 0, 16), 4);
        due.is("round, 60 hours, last", x.round(0, 1, 0, 69), 4);
        due.is("round, 60 hours, behind", x.round(0, 1, 0, 70), NONE);
        due.is("round, 59 hours", x.round(0, 2, 0, 0), 59);
        due.is("round, 59 hours, behind", x.round(0, 2, 0, 69), NONE);
    }

    // promises 30 and 34
    private void hushAndAreas() {
        OneEared x = sample();
        due.is("hush 7 for 1", x.hush(0, 7, 0, 1), 0);
        due.is("hush 7 for 2", x.hush(0, 7, 0, 2), 1);
        due.is("hush 7 for 3", x.hush(0, 7, 0, 3), NONE);
        due.is("hush 8 for 1", x.hush(0, 8, 0, 1), NONE);
        due.is("hush 8 at hour 3", x.hush(0, 8, 3, 1), 1);
        due.is("hush for 0", x.hush(0, 7, 0, 0), NONE);
        due.is("hush for 7", x.hush(0, 7, 0, 7), NONE);
        due.is("hush of a wall", x.hush(0, 5, 0, 1), NONE);
        due.is("hush at hour 100", x.hush(0, 7, 100, 1), NONE);
        due.is("hush of no field", x.hush(0, 12, 0, 1), NONE);
        due.is("hush in no court", x.hush(1, 7, 0, 1), NONE);
        OneEared six = Due.of("left 7 0 0 0;".repeat(6), "", "", "");
        due.is("hush for 6", six.hush(0, 7, 0, 6), 0);
        due.is("hush for 6, beside", six.hush(0, 2, 0, 6), 1);
        due.is("hush for 6, behind", six.hush(0, 12, 0, 6), NONE);
        due.is("areas", x.areas(0, NONE), 1);
        due.is("carve one wall", x.areas(0, 0), 5);
        due.is("carve by loud 10", x.areas(0, 10), NONE);
        due.is("carve by loud -2", x.areas(0, -2), NONE);
        due.is("areas of no court", x.areas(1, NONE), NONE);
        due.is("areas, all walls", Due.of("size 2 2;wall 0 1 2 3;", "", "", "").areas(0, NONE), 0);
        due.is("areas, checkered", Due.of("size 2 2;wall 0 3;", "", "", "").areas(0, NONE), 2);
        due.is("carve without walls", Due.of("", "", "", "").areas(0, 0), NONE);
        // 0 # 2 # 4 over a row of walls; the judge on 0 faces east: without 1 he HEARS 1 and 2,
        // one field still blind; without 3 the fields 2, 3, 4 are
        OneEared row = Due.of("size 5 2;wall 1 3 5 6 7 8 9;left 0 1 2 0;", "", "", "");
        due.is("areas of the row", row.areas(0, NONE), 3);
        due.is("carve the row", row.areas(0, 0), 1);
        due.is("nothing is carved for good", row.areas(0, NONE), 3);
        due.is("and no wall is gone", row.court(0, 2), 7);
        OneEared same = Due.of("size 2 3;wall 3 2;left 4 2 0 0;", "", "", "");
        due.is("carve, several, the least", same.areas(0, 0), 2);
        OneEared later = Due.of("size 2 3;wall 0 1;left 4 2 9 0;", "", "", "");
        due.is("carve, the later is better", later.areas(0, 0), 1);
    }

    // promise 17
    private void deeds() {
        OneEared x = sample();
        due.is("deeds", x.deed(0, NONE, 0), 7);
        due.is("deeds, what 1", x.deed(0, NONE, 1), -2);
        int[][] told = {{1, 0, 4, 0}, {1, 1, 3, 1}, {0, 0, 0, NONE}, {2, NONE, NONE, NONE}, {1, 0, 4, 3}, {0, 1, 3, NONE}, {0, 1, 2, NONE}};
        for (int k = 0; k < told.length; k++) {
            for (int what = 0; what < 4; what++) {
                due.is("deed " + k + ", " + what, x.deed(0, k, what), told[k][what]);
            }
            due.is("deed what 4", x.deed(0, k, 4), -2);
            due.is("deed what -1", x.deed(0, k, -1), -2);
        }
        due.is("deed 7", x.deed(0, 7, 0), -2);
        due.is("deed -2", x.deed(0, -2, 0), -2);
        due.is("deed of no trial", x.deed(1, 0, 0), -2);
        due.is("deeds of no trial", x.deed(1, NONE, 0), -2);
    }

    // promises 18 and 19
    private void states() {
        OneEared x = sample();
        due.is("stop", x.stop(0, 0), 6);
        due.is("stop of no court", x.stop(1, 0), NONE);
        due.is("stop of no trial", x.stop(0, 1), NONE);
        int[][] told = {{8, 3, 2}, {8, 3, 2}, {8, 3, 2}, {4, 7, 2}, {4, 7, 2}, {4, 7, 2}, {4, 7, 1}};
        for (int n = 0; n < told.length; n++) {
            due.is("stands " + n, x.stands(0, 0, n, 0, false), told[n][0]);
            due.is("twin stands " + n, x.stands(0, 0, n, 0, true), told[n][1]);
            due.is("other stands " + n, x.stands(0, 0, n, 1, false), told[n][2]);
            due.is("other's twin " + n, x.stands(0, 0, n, 1, true), NONE);
        }
        due.is("stands behind STOP", x.stands(0, 0, 7, 0, false), -2);
        due.is("stands -1", x.stands(0, 0, -1, 0, false), -2);
        due.is("stands of no pleader", x.stands(0, 0, 0, 2, false), -2);
        due.is("stands in no court", x.stands(1, 0, 0, 0, false), -2);
        due.is("stands in no trial", x.stands(0, 1, 0, 0, false), -2);
        // at the edge the twin stays, the pleader can't
        x = Due.of("size 2 2;plead 2;twin 0 2;", "go 0 0;go 0 1;go 0 3;go 0 3;go 0 2;", "", "");
        due.is("stop at the edge", x.stop(0, 0), 3);
        due.is("the twin stays", x.stands(0, 0, 1, 0, true), 2);
        due.is("the twin stays at the other edge", x.stands(0, 0, 2, 0, true), 2);
        due.is("the twin steps", x.stands(0, 0, 3, 0, true), 3);
        due.is("the pleader", x.stands(0, 0, 3, 0, false), 0);
        due.is("no such pleader says", Due.of("plead 0;", "wait;say 1 0 0;wait;", "", "").stop(0, 0), 1);
        due.is("no such pleader goes", Due.of("", "wait;wait;go 0 0;", "", "").stop(0, 0), 2);
        due.is("nothing stops waiting", Due.of("", "wait;wait;", "", "").stop(0, 0), 2);
        due.is("no deeds", Due.of("", "", "", "").stop(0, 0), 0);
    }

    // promises 20 and 21
    private void knowing() {
        OneEared x = sample();
        int[][] told = {{0, 0, 0}, {16, 16, 16}, {24, 16, 16}, {24, 16, 16}, {24, 16, 16}, {24, 16, 16}, {24, 16, 16}};
        for (int n = 0; n < told.length; n++) {
            due.is("judge 0 knows " + n, x.knows(0, 0, n, 0), told[n][0]);
            due.is("judge 1 knows " + n, x.knows(0, 0, n, 1), told[n][1]);
            due.is("common " + n, x.knows(0, 0, n, NONE), told[n][2]);
            due.is("lost " + n, x.knows(0, 0, n, -2), 0);
        }
        due.is("knows behind STOP", x.knows(0, 0, 7, 0), NONE);
        due.is("knows -1", x.knows(0, 0, -1, 0), NONE);
        due.is("no judge knows", x.knows(0, 0, 0, 2), NONE);
        due.is("judge -3 knows", x.knows(0, 0, 0, -3), NONE);
        due.is("knows in no court", x.knows(1, 0, 0, 0), NONE);
        due.is("knows in no trial", x.knows(0, 1, 0, 0), NONE);
        int[] heard = {3, 1, NONE, NONE, 3, NONE, NONE, NONE};
        for (int k = 0; k < heard.length; k++) {
            due.is("heard " + k, x.heard(0, 0, k), heard[k]);
        }
        due.is("heard -1", x.heard(0, 0, -1), NONE);
        due.is("heard in no court", x.heard(1, 0, 0), NONE);
        due.is("heard in no trial", x.heard(0, 1, 0), NONE);
        // without judges all is lost; a word heard once is not lost
        x = Due.of("plead 0;", "say 0 2 0;say 0 9 0;", "", "");
        due.is("lost without judges", x.knows(0, 0, 2, -2), 516);
        due.is("common without judges", x.knows(0, 0, 2, NONE), 0);
        due.is("heard without judges", x.heard(0, 0, 1), 0);
        x = Due.of("size 2 2;left 0 1 0 0;plead 2;", "say 0 2 9;say 0 3 0;go 0 0;say 0 2 0;say 1 5 5;", "", "");
        due.is("lost, both", x.knows(0, 0, 2, -2), 12);
        due.is("lost, one", x.knows(0, 0, 4, -2), 8);
        due.is("heard by none", x.heard(0, 0, 0), 0);
        due.is("a say behind STOP", x.heard(0, 0, 4), NONE);
    }

    // promises 22, 23, 32 and 33
    private void laws() {
        OneEared x = sample();
        due.is("rules", x.rule(0, NONE, 0), 3);
        due.is("rules, what 1", x.rule(0, NONE, 1), -2);
        int[][] told = {{1, 3, NONE}, {0, 4, 3}, {1, NONE, NONE}};
        for (int k = 0; k < told.length; k++) {
            for (int what = 0; what < 3; what++) {
                due.is("rule " + k + ", " + what, x.rule(0, k, what), told[k][what]);
            }
            due.is("rule what 3", x.rule(0, k, 3), -2);
        }
        due.is("rule 3", x.rule(0, 3, 0), -2);
        due.is("rule -2", x.rule(0, -2, 0), -2);
        due.is("rule of no law", x.rule(1, 0, 0), -2);
        due.is("judge 0 votes", x.votes(0, 0, 0, 0), 1);
        due.is("judge 1 votes", x.votes(0, 0, 0, 1), 0);
        due.is("verdict, even", x.votes(0, 0, 0, NONE), NONE);
        due.is("no judge votes", x.votes(0, 0, 0, 2), -2);
        due.is("judge -2 votes", x.votes(0, 0, 0, -2), -2);
        due.is("votes in no court", x.votes(1, 0, 0, 0), -2);
        due.is("votes in no trial", x.votes(0, 1, 0, 0), -2);
        due.is("votes by no law", x.votes(0, 0, 1, NONE), -2);
        due.is("idle", x.idle(0, 0, 0), 4);
        due.is("idle by no law", x.idle(0, 0, 1), NONE);
        due.is("idle in no court", x.idle(1, 0, 0), NONE);
        due.is("idle in no trial", x.idle(0, 1, 0), NONE);
        due.is("persuade to yes", x.persuade(0, 0, 0, 1), 8);
        due.is("persuade to no", x.persuade(0, 0, 0, 0), NONE);
        due.is("persuade to 2", x.persuade(0, 0, 0, 2), NONE);
        due.is("persuade to none", x.persuade(0, 0, 0, NONE), NONE);
        due.is("persuade in no court", x.persuade(1, 0, 0, 1), NONE);
        due.is("persuade in no trial", x.persuade(0, 1, 0, 1), NONE);
        due.is("persuade by no law", x.persuade(0, 0, 1, 1), NONE);
        Due.tell(x, Due.LAW, "yes 4 -;");
        due.is("verdict, yes", x.votes(0, 0, 1, NONE), 1);
        due.is("persuaded already", x.persuade(0, 0, 1, 1), 0);
        due.is("idle, none", x.idle(0, 0, 1), 0);
        Due.tell(x, Due.LAW, 1, "no 3 -;");
        due.is("verdict, no", x.votes(0, 0, 1, NONE), 0);
        due.is("he does not vote", x.votes(0, 0, 1, 1), NONE);
        Due.tell(x, Due.LAW, 1, "");
        due.is("no rules, no verdict", x.votes(0, 0, 1, NONE), NONE);
        due.is("no rules, none idle", x.idle(0, 0, 1), 0);
        // 1 needs 0 known, 2 and 5; or 7 and 9: two words beat three; 6 and 8 has the greater number
        Due.tell(x, Due.LAW, 1, "no - 4;no 0 1;yes 7 5;no - 9;yes 6 -;");
        due.is("persuade by one word", x.persuade(0, 0, 1, 1), 128);
        due.is("persuade to no, already", x.persuade(0, 0, 1, 0), 0);
        Due.tell(x, Due.LAW, 1, "no - 9;no - 1;yes 8 -;yes 2 -;no - -;");
        due.is("persuade by three words", x.persuade(0, 0, 1, 1), 512 + 2 + 4);
        // without judges no verdict is made
        OneEared empty = Due.of("", "", "yes - -;no - -;", "");
        due.is("persuade nobody", empty.persuade(0, 0, 0, 1), NONE);
        due.is("verdict of nobody", empty.votes(0, 0, 0, NONE), NONE);
        due.is("idle before nobody", empty.idle(0, 0, 0), 3);
    }

    // promise 24
    private void swaying() {
        OneEared x = sample();
        due.is("sway, even", x.sway(0, 0, 0, 0), 3);
        due.is("tips", x.sway(0, 0, 0, 1), 2);
        due.is("sway what 2", x.sway(0, 0, 0, 2), NONE);
        due.is("sway what -1", x.sway(0, 0, 0, -1), NONE);
        due.is("sway in no court", x.sway(1, 0, 0, 0), NONE);
        due.is("sway in no trial", x.sway(0, 1, 0, 0), NONE);
        due.is("sway by no law", x.sway(0, 0, 1, 0), NONE);
        Due.tell(x, Due.LAW, "yes - -;");
        due.is("two of two are even without one", x.sway(0, 0, 1, 0), 3);
        due.is("fair", x.sway(0, 0, 1, 1), 0);
        Due.tell(x, Due.LAW, 1, "yes 3 -;");
        due.is("only who votes sways", x.sway(0, 0, 1, 0), 1);
        x = Due.of("left 0 0 0 0;left 0 0 0 0;left 0 0 0 0;", "", "no - -;", "");
        due.is("three of three", x.sway(0, 0, 0, 0), 0);
    }

    // promise 25
    private void soldEars() {
        OneEared x = sample();
        due.is("sold 0", x.sold(0, 0, 0, false), 0);
        due.is("sold 1", x.sold(0, 0, 1, false), 0);
        due.is("third 0", x.sold(0, 0, 0, true), 0);
        due.is("third 1", x.sold(0, 0, 1, true), 1);
        due.is("dearest, all even", x.sold(0, 0, NONE, false), 0);
        due.is("dearest, third", x.sold(0, 0, NONE, true), 0);
        due.is("sold of no judge", x.sold(0, 0, 2, false), NONE);
        due.is("sold of -2", x.sold(0, 0, -2, false), NONE);
        due.is("sold in no court", x.sold(1, 0, 0, false), NONE);
        due.is("sold in no trial", x.sold(0, 1, 0, false), NONE);
        due.is("sold without judges", Due.of("", "", "", "").sold(0, 0, NONE, false), NONE);
        // judges on 1 of a row 0 1 2, all facing north: the left ear HEARS 0, the right one 2
        x = Due.of("size 3 2;wall 3 4 5;left 1 0 9 0;right 1 0 9 0;right 1 0 9 0;plead 0;plead 1;plead 2;",
                "say 0 1 0;say 1 2 0;say 2 3 0;say 2 4 0;say 2 4 0;", "", "");
        due.is("sold left", x.sold(0, 0, 0, false), 1);
        due.is("sold right", x.sold(0, 0, 1, false), 2);
        due.is("third left", x.sold(0, 0, 0, true), 2);
        due.is("third right", x.sold(0, 0, 2, true), 1);
        due.is("dearest", x.sold(0, 0, NONE, false), 1);
    }

    // promise 26
    private void seating() {
        OneEared x = sample();
        due.is("seat of 0", x.seats(0, 0, 0), 1);
        due.is("seat of 1", x.seats(0, 0, 1), 0);
        due.is("known then", x.seats(0, 0, NONE), 4);
        due.is("seat of no judge", x.seats(0, 0, 2), NONE);
        due.is("seat of -2", x.seats(0, 0, -2), NONE);
        due.is("seats in no court", x.seats(1, 0, 0), NONE);
        due.is("seats in no trial", x.seats(0, 1, NONE), NONE);
        due.is("seats without judges", Due.of("", "", "", "").seats(0, 0, NONE), 0);
        // all seats alike: nobody moves
        x = Due.of("left 3 0 1 0;right 3 0 2 0;left 3 0 3 0;plead 3;", "say 0 1 0;say 0 2 0;", "", "");
        for (int j = 0; j < 3; j++) {
            due.is("stays " + j, x.seats(0, 0, j), j);
        }
        due.is("stays, known", x.seats(0, 0, NONE), 6);
        // on a row the pleader walks east; who reaches far should sit far off
        x = Due.of("size 4 2;wall 4 5 6 7;right 3 3 0 0;right 0 1 3 0;plead 0;", "say 0 1 0;say 0 2 0;", "", "");
        due.is("the near seat", x.seats(0, 0, 0), 1);
        due.is("the far seat", x.seats(0, 0, 1), 0);
        due.is("both know both", x.seats(0, 0, NONE), 4);
    }

    // promises 27 and 28
    private void rolls() {
        OneEared x = sample();
        due.is("claims", x.claim(0, NONE, 0), 4);
        due.is("claims, what 1", x.claim(0, NONE, 1), -2);
        int[][] told = {{0, 3}, {1, 3}, {1, 4}, {4, 0}};
        for (int k = 0; k < told.length; k++) {
            due.is("claim " + k + ", judge", x.claim(0, k, 0), told[k][0]);
            due.is("claim " + k + ", word", x.claim(0, k, 1), told[k][1]);
            due.is("claim what 2", x.claim(0, k, 2), -2);
            due.is("claim what -1", x.claim(0, k, -1), -2);
        }
        due.is("claim 4", x.claim(0, 4, 0), -2);
        due.is("claim of no roll", x.claim(1, 0, 0), -2);
        due.is("liar", x.lips(0, 0, 0, 0), 10);
        due.is("lips, none", x.lips(0, 0, 0, 1), 0);
        due.is("false", x.lips(0, 0, 0, 2), 10);
        due.is("reader, none", x.lips(0, 0, 0, 3), NONE);
        due.is("lips what 4", x.lips(0, 0, 0, 4), -2);
        due.is("lips what -1", x.lips(0, 0, 0, -1), -2);
        due.is("lips in no court", x.lips(1, 0, 0, 0), -2);
        due.is("lips in no trial", x.lips(0, 1, 0, 0), -2);
        due.is("lips of no roll", x.lips(0, 0, 1, 0), -2);
        // the judge on 0 faces east, turns by 1, reach 0: he sees 1 2 3 at hour 0, 4 8 at hour 1
        x = Due.of("size 4 3;wall 6;left 0 1 0 1;left 4 1 0 0;plead 3;twin 0 8;plead 7;",
                "say 0 1 0;say 0 2 0;say 0 3 0;say 1 4 0;say 1 5 9;", "",
                "know 0 1;know 0 2;know 0 3;know 1 4;know 1 5;know 0 5;know 5 1;know 1 1;");
        // judge 0: words 1 (over the row) and 2 (the twin's, in the column); judge 1 sees
        // none: 6 is a wall before 7; nobody hears anything but judge 0 word 5 at hour 4
        due.is("liar, seen", x.lips(0, 0, 0, 0), 1 + 2 + 4 + 8 + 64 + 128);
        due.is("lips, seen", x.lips(0, 0, 0, 1), 1 + 2);
        due.is("false, not seen", x.lips(0, 0, 0, 2), 4 + 8 + 64 + 128);
        due.is("reader, seen", x.lips(0, 0, 0, 3), 0);
        // on his own field nobody is ahead of him, but he HEARS; of several readers the least
        x = Due.of("size 4 2;left 0 1 0 0;left 1 1 0 0;left 2 3 0 0;plead 3;plead 1;", "say 0 1 0;say 1 2 0;", "",
                "know 2 2;know 1 1;know 0 1;know 0 2;know 1 2;");
        due.is("liars", x.lips(0, 0, 0, 0), 15);
        due.is("lips of three", x.lips(0, 0, 0, 1), 15);
        due.is("reader of most", x.lips(0, 0, 0, 3), 0);
        Due.tell(x, Due.ROLL, "know 2 2;know 1 1;");
        due.is("reader, the least", x.lips(0, 0, 1, 3), 1);
        Due.tell(x, Due.ROLL, 1, "know 2 2;");
        due.is("reader of one", x.lips(0, 0, 1, 3), 2);
        // who faces away from the speaker on 0 reads nothing
        x = Due.of("left 12 0 0 0;plead 0;", "say 0 1 0;", "", "know 0 1;");
        due.is("not ahead", x.lips(0, 0, 0, 1), 0);
        due.is("not ahead, false", x.lips(0, 0, 0, 2), 1);
    }

    // promise 29
    private void thunder() {
        OneEared x = sample();
        due.is("no thunder, all", x.drawn(0, 0, 5, 0, 0), 3);
        due.is("no thunder, hours", x.drawn(0, 0, 5, 0, 1), 0);
        due.is("no thunder, judge 0", x.drawn(0, 0, 5, 0, 10), 24);
        due.is("no thunder, judge 1", x.drawn(0, 0, 5, 0, 11), 16);
        due.is("thunder each hour", x.drawn(0, 0, -77, 100, 1), 6);
        // seed 0 draws 0 below 100, then by thunder 54236, a north; then 56, 85, 98, 95, 45
        due.is("seed 0 by 1, hours", x.drawn(0, 0, 0, 1, 1), 1);
        // judge 1 HEARS word 4 from the north at hours 0 and 4; judge 0 from the east
        due.is("seed 0 by 1, all", x.drawn(0, 0, 0, 1, 0), 3);
        due.is("seed 0 by 100, hours", x.drawn(0, 0, 0, 100, 1), 6);
        due.is("drawn what 2", x.drawn(0, 0, 0, 0, 2), NONE);
        due.is("drawn what 9", x.drawn(0, 0, 0, 0, 9), NONE);
        due.is("drawn what -1", x.drawn(0, 0, 0, 0, -1), NONE);
        due.is("drawn of no judge", x.drawn(0, 0, 0, 0, 12), NONE);
        due.is("drawn by 101", x.drawn(0, 0, 0, 101, 0), NONE);
        due.is("drawn by -1", x.drawn(0, 0, 0, -1, 0), NONE);
        due.is("drawn in no court", x.drawn(1, 0, 0, 0, 0), NONE);
        due.is("drawn in no trial", x.drawn(0, 1, 0, 0, 0), NONE);
        // seed 0 thunders from the north at hour 0, from the east at hour 1 (54885 by 4 is 1)
        x = Due.of("size 3 3;left 4 0 9 0;plead 1;plead 4;twin 1 1;", "say 0 1 0;", "", "");
        due.is("drowned", x.drawn(0, 0, 0, 100, 10), 0);
        due.is("not by 0", x.drawn(0, 0, 0, 0, 10), 2);
        Due.tell(x, Due.TRIAL, 0, "wait;say 0 1 0;");
        due.is("another side", x.drawn(0, 0, 0, 100, 10), 2);
        Due.tell(x, Due.TRIAL, 0, "say 1 1 0;");
        due.is("his own field", x.drawn(0, 0, 0, 100, 10), 2);
        due.is("hours up to STOP", x.drawn(0, 0, 0, 100, 1), 1);
        due.is("thunder is over", x.knows(0, 0, 1, 0), 2);
        // from 0 the word COMES from the north and the west: the left ear is left
        x = Due.of("size 3 3;left 4 0 9 0;plead 0;", "say 0 1 0;", "", "");
        due.is("the other side is heard", x.drawn(0, 0, 0, 100, 10), 2);
        x = Due.of("size 3 3;right 4 0 9 0;plead 0;", "say 0 1 0;", "", "");
        due.is("the right ear is not", x.drawn(0, 0, 0, 100, 10), 0);
    }

    // promise 31
    private void benches() {
        OneEared x = sample();
        due.is("bench 0", x.bench(0, 0, 0), 1);
        due.is("bench 1", x.bench(0, 0, 1), 2);
        due.is("start", x.bench(0, 0, NONE), 2);
        due.is("bench of no judge", x.bench(0, 0, 2), NONE);
        due.is("bench of -2", x.bench(0, 0, -2), NONE);
        due.is("bench in no court", x.bench(1, 0, 0), NONE);
        due.is("bench in no trial", x.bench(0, 1, NONE), NONE);
        due.is("start without judges", Due.of("", "", "", "").bench(0, 0, NONE), 0);
        due.is("bench, all even", Due.of("left 0 3 0 2;", "wait;", "", "").bench(0, 0, 0), 0);
    }

    // promises 35 and 36
    private void mouthAndRift() {
        OneEared x = sample();
        due.is("mouth", x.mouth(0, 0, false), 0);
        due.is("mouth, many", x.mouth(0, 0, true), 4);
        due.is("mouth in no court", x.mouth(1, 0, false), NONE);
        due.is("mouth in no trial", x.mouth(0, 1, true), NONE);
        OneEared still = Due.of("plead 0;", "say 0 1 9;", "", "");
        due.is("mouth, nobody heard", still.mouth(0, 0, false), NONE);
        due.is("mouth, nobody heard, many", still.mouth(0, 0, true), NONE);
        OneEared even = Due.of("left 0 0 0 0;plead 1;plead 0;plead 0;", "say 2 1 0;say 1 1 0;say 0 1 0;", "", "");
        due.is("mouth, of several the least", even.mouth(0, 0, false), 1);
        due.is("mouth, of several, many", even.mouth(0, 0, true), 1);
        due.is("rift, a", x.rift(0, 0, 0), 0);
        due.is("rift, b", x.rift(0, 0, 1), 1);
        due.is("rift, words", x.rift(0, 0, 2), 1);
        due.is("rift what 3", x.rift(0, 0, 3), NONE);
        due.is("rift what -1", x.rift(0, 0, -1), NONE);
        due.is("rift in no court", x.rift(1, 0, 0), NONE);
        due.is("rift in no trial", x.rift(0, 1, 0), NONE);
        due.is("rift of one judge", Due.of("left 0 0 0 0;", "", "", "").rift(0, 0, 2), NONE);
        OneEared quiet = Due.of("left 0 0 0 0;left 0 0 0 0;left 0 0 0 0;", "", "", "");
        due.is("no rift, a", quiet.rift(0, 0, 0), 0);
        due.is("no rift, b", quiet.rift(0, 0, 1), 1);
        due.is("no rift, words", quiet.rift(0, 0, 2), 0);
        // judges on 0, 2, 4 and 4, each HEARS only his own field; 4 hears two words more
        OneEared far = Due.of("left 0 0 0 0;left 2 0 0 0;left 4 0 0 0;left 4 0 0 0;plead 0;plead 2;plead 4;",
                "say 0 1 0;say 1 2 0;say 2 3 0;say 2 4 0;", "", "");
        due.is("rift of far, a", far.rift(0, 0, 0), 0);
        due.is("rift of far, b", far.rift(0, 0, 1), 2);
        due.is("rift of far, words", far.rift(0, 0, 2), 3);
    }

    // promises 37, 38 and 39
    private void imagesOfAll() {
        OneEared x = sample();
        due.is("count(4)", x.count(4), -2);
        due.is("count(-1)", x.count(-1), -2);
        due.is("again without an image", x.again(0), false);
        due.is("image 3", x.image(3), false);
        due.is("image -1", x.image(-1), false);
        due.is("again 3", x.again(3), false);
        due.is("again -1", x.again(-1), false);
        Due.put(x, "wall 6;wall 7".getBytes(), 0);
        due.is("image 1", x.image(1), true);
        due.is("text from the tape", x.text(0, 0), NONE);
        due.is("its fault", x.fault(0), 1);
        due.is("its place", x.fault(1), 13);
        due.is("image 2", x.image(2), true);
        Due.tell(x, Due.COURT, 0, "left 24 0 0 0;");
        Due.tell(x, Due.COURT, "size 2 2;");
        Due.tell(x, Due.TRIAL, 0, "wait;");
        Due.tell(x, Due.LAW, 0, "");
        Due.tell(x, Due.ROLL, "know 0 1;");
        due.is("now", x.court(0, 0), 5);
        due.is("image 0", x.image(0), true);
        due.is("again 2", x.again(2), true);
        due.is("the fault is back", x.fault(0), 1);
        due.is("its place is back", x.fault(1), 13);
        due.is("the tape is empty as then", x.end(1), NONE);
        due.is("one court", x.count(0), 1);
        due.is("one roll", x.count(3), 1);
        due.is("the court", x.court(0, 0), 4);
        due.is("quarter", x.court(0, 5), 3);
        due.is("the trial", x.stop(0, 0), 6);
        due.is("the law", x.votes(0, 0, 0, 0), 1);
        due.is("the roll", x.lips(0, 0, 0, 0), 10);
        due.is("again 1", x.again(1), true);
        due.is("no fault then", x.fault(0), 0);
        due.is("the tape then", x.end(14), NONE);
        due.is("the tape then, cut", x.end(7), 7);
        due.is("the tape then, read", x.text(0, NONE), 1);
        due.is("wall 6", x.wall(1, 6), true);
        due.is("wall 7", x.wall(1, 7), false);
        due.is("again 1 once more", x.again(1), true);
        due.is("the image is as it was", x.end(13), 13);
        due.is("again 0", x.again(0), true);
        due.is("two courts", x.count(0), 2);
        due.is("the later court", x.court(0, 0), 5);
        due.is("the later second court", x.court(1, 0), 2);
        due.is("the later trial", x.stop(0, 0), 1);
        due.is("the later roll", x.claim(1, 0, 1), 1);
        due.is("image 0 over itself", x.image(0), true);
        Due.tell(x, Due.COURT, 1, "size 3 3;");
        due.is("image 0 newly", x.image(0), true);
        Due.tell(x, Due.COURT, 1, "size 4 4;");
        due.is("again the newer", x.again(0), true);
        due.is("its court", x.court(1, 0), 3);
    }

    // all promises: what is not there is answered, whatever the numbers
    private void missingCourts() {
        OneEared x = new OneEared();
        int[] odd = {Integer.MIN_VALUE, -3, -2, -1, 0, 1, 2, Integer.MAX_VALUE};
        for (int n : odd) {
            due.is("court", x.court(n, 0), NONE);
            due.is("wall", x.wall(n, 0), false);
            due.is("judge", x.judge(n, 0, 0), NONE);
            due.is("pleader", x.pleader(n, 0, false), -2);
            due.is("far", x.far(n, 0, 0), NONE);
            due.is("pulpit", x.pulpit(n, 0, 0, true), NONE);
            due.is("stop", x.stop(n, n), NONE);
            due.is("stands", x.stands(n, n, 0, 0, false), -2);
            due.is("votes", x.votes(n, n, n, NONE), -2);
            due.is("lips", x.lips(n, n, n, 0), -2);
            due.is("areas", x.areas(n, NONE), NONE);
            due.is("deed", x.deed(n, NONE, 0), -2);
            due.is("rule", x.rule(n, NONE, 0), -2);
            due.is("claim", x.claim(n, NONE, 0), -2);
        }
        x = sample();
        for (int n : odd) {
            boolean judge = n == 0 || n == 1;
            due.is("judge " + n, x.judge(0, n, 3) != NONE, judge);
            due.is("comes to " + n, x.comes(0, n, 0, 0) != NONE, judge);
            due.is("near " + n, x.near(0, n, 0, 9) != NONE, judge);
            due.is("heard " + n, x.heard(0, 0, n) != NONE, judge);
            due.is("drawn " + n, x.drawn(0, 0, 0, 0, n) != NONE, judge);
            due.is("seats " + n, x.seats(0, 0, n) != NONE, judge || n == NONE);
            due.is("round " + n, x.round(0, 0, 9, n) != NONE, n == 0);
        }
    }
}
