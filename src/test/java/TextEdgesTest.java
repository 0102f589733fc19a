/** The tape and its texts at their edges: promises 1 to 5, 37 to 39, and 'FAULTS of all'. */
final class TextEdgesTest {
    private static final int NONE = OneEared.NONE;

    // of each line's form: its sort, the lines that it needs before, its word, and of each of
    // its numbers the least and the greatest that can be
    private static final Object[][] FORMS = {
        {0, "", "size", new int[][] {{2, 8}, {2, 8}}},
        {0, "size 8 8;", "wall", new int[][] {{0, 63}}},
        {0, "size 8 8;", "left", new int[][] {{0, 63}, {0, 3}, {0, 9}, {0, 3}}},
        {0, "size 8 8;", "right", new int[][] {{0, 63}, {0, 3}, {0, 9}, {0, 3}}},
        {0, "size 8 8;", "plead", new int[][] {{0, 63}}},
        {0, "size 8 8;plead 1;plead 1;plead 1;plead 1;", "twin", new int[][] {{0, 3}, {0, 63}}},
        {1, "", "go", new int[][] {{0, 3}, {0, 3}}},
        {1, "", "say", new int[][] {{0, 3}, {0, 9}, {0, 9}}},
        {1, "", "wait", new int[][] {}},
        {2, "", "yes", new int[][] {{0, 9}, {0, 9}}},
        {2, "", "no", new int[][] {{0, 9}, {0, 9}}},
        {3, "", "know", new int[][] {{0, 5}, {0, 9}}}};

    // of each sort what is counted: the lines that tell one, and how many there can be
    private static final String[][][] COUNTED = {
        {{"left 0 0 0 0;", "right 0 0 0 0;"}, {"plead 0;"}}, {{"go 0 0;", "say 0 0 0;", "wait;"}}, {{"yes - -;", "no - -;"}}, {{"know 0 0;"}}};
    private static final String[][][] SPOILED = {
        {{"left 0 4 0 0;", "right 0 0 10 0;"}, {"plead 64;"}}, {{"go 0 4;", "say 0 10 0;"}}, {{"yes 10 -;", "no - 99;"}}, {{"know 6 0;"}}};
    private static final int[][] MOST = {{6, 4}, {30}, {8}, {12}};

    private final Due due = new Due();

    public static void main(String[] args) {
        TextEdgesTest test = new TextEdgesTest();
        test.fullTape();
        test.bytesOfNumbers();
        test.lengths();
        test.signs();
        test.runsOfSigns();
        test.numbersThatCanBe();
        test.numbersThatCant();
        test.notTheToken();
        test.brokenOff();
        test.wordsOfSorts();
        test.oneTooMany();
        test.missing();
        test.inWalls();
        test.whichFault();
        test.struck();
        test.howMany();
        test.tapeBehindText();
        test.latestFault();
        test.inThePlace();
        test.images();
        test.imagesAreTheirOwn();
        test.imagesOfEachSort();
        test.imageOfFullTape();
        test.due.close();
    }

    private void faultOf(int sort, String text, int fault, int place) {
        due.faultOf(sort, text, fault, place);
    }

    private OneEared read(int sort, String text) {
        return due.faultOf(sort, text, 0, NONE);
    }

    // ---- promises 2 and 3 ----

    private void fullTape() {
        OneEared x = new OneEared();
        Due.put(x, " ".repeat(595) + "wait;");
        due.is("the tape has 600", x.end(600), 600);
        due.is("600 and 20 more", x.feed(0, 0, 0, 0, 0), NONE);
        due.is("nothing came, nothing went", x.end(600), 600);
        due.is("text of 600 bytes", x.text(1, NONE), 0);
        due.is("its last line", x.deed(0, NONE, 0), 1);
        // NONE leaves the tape as it is, also where just one byte is too many
        Due.put(x, "wait;" + " ".repeat(576));
        due.is("581 and 20 more", x.feed(0, 0, 0, 0, 0), NONE);
        due.is("still 581", x.end(582), NONE);
        due.is("no byte came", x.text(1, NONE), 1);
        Due.put(x, " ".repeat(580));
        due.is("580 and 20 more", x.feed(0x20202020, 0x20202020, 0x20202020, 0x20202020, 0x2020203b), 600);
        due.is("the byte 600 is read", x.text(0, NONE), NONE);
        due.is("its place", x.fault(1), 599);
        faultOf(1, " ".repeat(596) + "wait", 1, 600);
        faultOf(0, "wall 25;" + " ".repeat(592), 4, 600);
        due.is("all blank", Due.tell(x, 0, "\n".repeat(600)), 0);
    }

    private void bytesOfNumbers() {
        // "plea" "d 7;" and two walls: of each number the highest byte comes first, a first, e last
        OneEared x = new OneEared();
        due.is("feed", x.feed(0x706c6561, 0x6420373b, 0x77616c6c, 0x20313220, 0x3133203b), 20);
        due.is("text", x.text(0, NONE), 0);
        due.is("pleader", x.pleader(0, 0, false), 7);
        due.is("wall 12", x.wall(0, 12), true);
        due.is("wall 13", x.wall(0, 13), true);
        due.is("walls", x.court(0, 2), 2);
        // a byte above 127 in each place of a number, and in each number
        for (int at = 0; at < 20; at++) {
            int[] n = {0x20202020, 0x20202020, 0x20202020, 0x20202020, 0x20202020};
            n[at / 4] = n[at / 4] & ~(255 << 24 - at % 4 * 8) | 0xf0 << 24 - at % 4 * 8;
            OneEared y = new OneEared();
            due.is("feed, high byte", y.feed(n[0], n[1], n[2], n[3], n[4]), 20);
            due.is("text, high byte", y.text(0, NONE), NONE);
            due.is("place of the high byte", y.fault(1), at);
        }
    }

    private void lengths() {
        OneEared x = new OneEared();
        due.is("empty, end(0)", x.end(0), 0);
        due.is("empty, end(1)", x.end(1), NONE);
        Due.put(x, "wall 3;wall 4;");
        due.is("14 bytes, end(15)", x.end(15), NONE);
        due.is("14 bytes, end(-1)", x.end(-1), NONE);
        due.is("14 bytes, end(14)", x.end(14), 14);
        due.is("14 bytes, end(8)", x.end(8), 8);
        due.is("8 bytes, end(9)", x.end(9), NONE);
        due.is("8 bytes, end(7)", x.end(7), 7);
        due.is("behind the 7", x.feed(0x706c6561, 0x6420393b, 0x20202020, 0x20202020, 0x20202020), 27);
        due.is("text", x.text(0, NONE), 0);
        due.is("before the end", x.wall(0, 3), true);
        due.is("behind the end", x.wall(0, 4), false);
        due.is("fed later", x.pleader(0, 0, false), 9);
        Due.put(x, "wall 3;");
        due.is("7 bytes, end(0)", x.end(0), 0);
        due.is("empty text", x.text(0, NONE), 1);
        due.is("no walls", x.court(1, 2), 0);
    }

    // ---- tokens ----

    private void signs() {
        for (int sign = 0; sign < 256; sign++) {
            String s = "" + (char) sign;
            boolean blank = sign == 10 || sign == 32;
            boolean digit = sign >= '0' && sign <= '9';
            for (int sort = 0; sort < 4; sort++) {
                faultOf(sort, s, blank ? 0 : 1, blank ? NONE : 0);
            }
            faultOf(1, "wait;" + s + "wait;", blank ? 0 : 1, blank ? NONE : 5);
            boolean letter = sign >= 'a' && sign <= 'z';
            faultOf(1, "wait" + s + ";", blank ? 0 : 1, blank ? NONE : letter ? 0 : sign == ';' ? 5 : 4);
            // '1' and '2' with a digit between are one row of three, which is no token
            faultOf(0, "wall 1" + s + "2;", blank ? 0 : 1, blank ? NONE : digit ? 5 : sign == ';' ? 7 : 6);
            faultOf(2, "yes 1 " + s + ";", digit || sign == '-' ? 0 : 1, digit || sign == '-' ? NONE : blank ? 7 : 6);
        }
    }

    private void runsOfSigns() {
        read(0, "\n\n  wall\n\n1  2\n3 ;  \n");
        read(0, "wall1;wall2 3;size5 5;plead4;twin0 4;left6 0 0 0;");
        read(0, "wall 1;wall 2;");
        read(2, "yes--;yes-3;no3-;");
        read(2, "yes\n-\n-\n;");
        read(1, "say0 1 2;go0 3;wait;");
        faultOf(1, "say012;", 1, 3);
        faultOf(0, "wall 000;", 1, 5);
        faultOf(0, "wall 1 2 333 4;", 1, 9);
        faultOf(0, "wall 1 2 0000000000000000001;", 1, 9);
        faultOf(0, "wall 99999999999999999999;", 1, 5);
        faultOf(0, "wall 4294967301;", 1, 5);
        faultOf(0, "wallwall 1;", 1, 0);
        faultOf(0, "wal l 1;", 1, 0);
        faultOf(0, "wall -1;", 1, 5);
        faultOf(0, "wall 1x;", 1, 6);
        faultOf(0, "wall 1 wall 2;", 1, 7);
        faultOf(0, ";", 1, 0);
        faultOf(0, "wall 1; ;", 1, 8);
        faultOf(1, "wait;wait\n\n wait;", 1, 12);
        // a NUMBER may be told by two digits
        OneEared x = read(0, "size 05 04;wall 07;left 08 03 09 01;plead 00;twin 00 02;");
        due.is("size 05 04, W", x.court(0, 0), 5);
        due.is("size 05 04, H", x.court(0, 1), 4);
        due.is("wall 07", x.wall(0, 7), true);
        due.is("left 08", x.judge(0, 0, 0), 8);
        due.is("reach 09", x.judge(0, 0, 3), 9);
        due.is("twin 00 02", x.pleader(0, 0, true), 2);
    }

    // ---- NUMBERS ----

    private static String line(String word, int[] numbers, int i, String token) {
        StringBuilder line = new StringBuilder(word);
        for (int k = 0; k < numbers.length; k++) {
            line.append(' ').append(k == i ? token : "" + numbers[k]);
        }
        return line.append(';').toString();
    }

    private static int placeOf(String word, int[] numbers, int i) {
        int place = word.length() + 1;
        for (int k = 0; k < i; k++) {
            place += ("" + numbers[k]).length() + 1;
        }
        return place;
    }

    private static int[] column(int[][] bounds, int which) {
        int[] numbers = new int[bounds.length];
        for (int i = 0; i < numbers.length; i++) {
            numbers[i] = bounds[i][which];
        }
        return numbers;
    }

    private void numbersThatCanBe() {
        for (Object[] form : FORMS) {
            int[][] bounds = (int[][]) form[3];
            int sort = (Integer) form[0];
            for (int i = 0; i < bounds.length; i++) {
                for (int which = 0; which < 2; which++) {
                    int[] least = column(bounds, 0);
                    read(sort, form[1] + line((String) form[2], least, i, "" + bounds[i][which]));
                }
                if (sort == 2) {
                    read(sort, line((String) form[2], column(bounds, 1), i, "-"));
                }
            }
            read(sort, form[1] + line((String) form[2], column(bounds, 1), NONE, ""));
        }
        OneEared x = read(0, "size 8 8;left 63 3 9 3;right 62 2 8 2;plead 0;plead 1;plead 2;plead 61;twin 3 60;");
        int[][] told = {{63, 3, 0, 9, 3}, {62, 2, 1, 8, 2}};
        for (int j = 0; j < 2; j++) {
            for (int what = 0; what < 5; what++) {
                due.is("judge " + j + ", " + what, x.judge(0, j, what), told[j][what]);
            }
        }
        due.is("pleader 3", x.pleader(0, 3, false), 61);
        due.is("twin 3", x.pleader(0, 3, true), 60);
    }

    private void numbersThatCant() {
        for (Object[] form : FORMS) {
            int[][] bounds = (int[][]) form[3];
            int sort = (Integer) form[0];
            String before = (String) form[1];
            String word = (String) form[2];
            for (int i = 0; i < bounds.length; i++) {
                int[] good = column(bounds, 0);
                int place = before.length() + placeOf(word, good, i);
                faultOf(sort, before + line(word, good, i, "" + (bounds[i][1] + 1)), 2, place);
                faultOf(sort, before + line(word, good, i, "99"), 2, place);
                for (int n = 0; n < bounds[i][0]; n++) {
                    faultOf(sort, before + line(word, good, i, "" + n), 2, place);
                    faultOf(sort, before + line(word, good, i, "0" + n), 2, place);
                }
                faultOf(sort, before + line(word, good, i, "100"), 1, place);
                // of two that can't be, the first by place
                int[] bad = good.clone();
                bad[i] = 99;
                for (int k = i + 1; k < bounds.length; k++) {
                    faultOf(sort, before + line(word, bad, k, "99"), 2, place);
                }
                faultOf(sort, before + line(word, good, i, "99") + line(word, good, i, "99"), 2, place);
            }
        }
        faultOf(0, "wall 1 2 64 3 99;", 2, 9);
        faultOf(0, "wall 1;wall 64;", 2, 12);
    }

    private void notTheToken() {
        for (Object[] form : FORMS) {
            int[][] bounds = (int[][]) form[3];
            int sort = (Integer) form[0];
            String before = (String) form[1];
            String word = (String) form[2];
            int[] good = column(bounds, 0);
            for (int i = 0; i < bounds.length; i++) {
                int place = before.length() + placeOf(word, good, i);
                faultOf(sort, before + line(word, good, i, ";"), 1, place);
                faultOf(sort, before + line(word, good, i, "x"), 1, place);
                faultOf(sort, before + line(word, good, i, word), 1, place);
                faultOf(sort, before + line(word, good, i, "+"), 1, place);
                if (sort != 2) {
                    faultOf(sort, before + line(word, good, i, "-"), 1, place);
                }
            }
            // where ';' should stand
            String whole = before + line(word, good, NONE, "");
            String open = whole.substring(0, whole.length() - 1);
            for (String other : new String[] {"-", "x", "wall", ":", "123"}) {
                faultOf(sort, open + " " + other + ";", 1, open.length() + 1);
            }
            if (!word.equals("wall")) {
                faultOf(sort, open + " 3;", 1, open.length() + 1);
            }
        }
    }

    private void brokenOff() {
        for (Object[] form : FORMS) {
            int[][] bounds = (int[][]) form[3];
            String before = (String) form[1];
            String whole = before + line((String) form[2], column(bounds, 0), NONE, "");
            for (int end = before.length() + 1; end < whole.length(); end++) {
                char next = whole.charAt(end);
                if (next == ' ' || next == ';') {
                    faultOf((Integer) form[0], whole.substring(0, end), 1, end);
                    faultOf((Integer) form[0], whole.substring(0, end) + " \n ", 1, end + 3);
                }
            }
        }
        faultOf(0, "wa", 1, 0);
        faultOf(0, "wall 1;w", 1, 7);
    }

    private void wordsOfSorts() {
        for (Object[] form : FORMS) {
            String line = line((String) form[2], column((int[][]) form[3], 0), NONE, "");
            for (int sort = 0; sort < 4; sort++) {
                if (sort != (Integer) form[0]) {
                    faultOf(sort, line, 1, 0);
                }
            }
            String word = (String) form[2];
            String numbers = line.substring(word.length());
            for (String wrong : new String[] {word + "s", word.substring(1), word.substring(0, word.length() - 1),
                "a" + word, "z" + word.substring(1), word.substring(0, word.length() - 1) + "z", word.toUpperCase()}) {
                faultOf((Integer) form[0], wrong + numbers, 1, 0);
            }
        }
    }

    // ---- FAULT 3 ----

    private void oneTooMany() {
        for (int sort = 0; sort < 4; sort++) {
            for (int what = 0; what < COUNTED[sort].length; what++) {
                String[] lines = COUNTED[sort][what];
                int most = MOST[sort][what];
                for (int i = 0; i < lines.length; i++) {
                    StringBuilder full = new StringBuilder();
                    for (int k = 0; k < most; k++) {
                        full.append(lines[(k + i) % lines.length]).append(k % 3 == 0 ? "\n" : "");
                    }
                    String text = full.toString();
                    int end = text.length();
                    read(sort, text);
                    faultOf(sort, text + " \n" + lines[i], 3, end + 2);
                    faultOf(sort, text + lines[i] + lines[i], 3, end);
                    // FAULT 1 stands before it, wherever it is
                    faultOf(sort, text + lines[i] + ";", 1, end + lines[i].length());
                    faultOf(sort, text + lines[i].substring(0, lines[i].length() - 1), 1, end + lines[i].length() - 1);
                    spoiledLines(sort, what, i, text, most);
                }
            }
        }
    }

    // a line with a NUMBER that can't be tells one all the same, so it may be the one too many
    private void spoiledLines(int sort, int what, int i, String text, int most) {
        String[] spoiled = SPOILED[sort][what];
        String bad = spoiled[i % spoiled.length];
        int end = text.length();
        faultOf(sort, text + bad, 3, end);
        String good = COUNTED[sort][what][i];
        int place = placeOfBad(bad);
        faultOf(sort, bad + good.repeat(most), 2, place);
        faultOf(sort, good.repeat(most - 1) + bad + good, 2, good.length() * (most - 1) + place);
    }

    private static int placeOfBad(String line) {
        for (String bad : new String[] {" 4 0 0;", " 10 0;", " 64;", " 4;", " 10 -;", " 99;", " 6 0;"}) {
            if (line.contains(bad)) {
                return line.indexOf(bad) + 1;
            }
        }
        return NONE;
    }

    // ---- FAULT 4 ----

    private void missing() {
        String[] lines = {"wall %;", "left % 0 0 0;", "right % 0 0 0;", "plead %;", "plead 0;twin 0 %;", "wall 0 % 1;"};
        int[][] sizes = {{2, 2}, {2, 8}, {8, 2}, {5, 5}, {7, 8}, {8, 7}};
        for (String line : lines) {
            for (int[] size : sizes) {
                int fields = size[0] * size[1];
                String told = "size " + size[0] + " " + size[1] + ";";
                read(0, told + line.replace("%", "" + (fields - 1)));
                for (int f : new int[] {fields, fields + 1, 63}) {
                    String text = line.replace("%", "" + f);
                    faultOf(0, told + text, 4, told.length() + text.length());
                    // the size that stands at last counts, wherever it is told
                    faultOf(0, text + told, 4, told.length() + text.length());
                    read(0, told + text + "size 8 8;");
                }
            }
            read(0, line.replace("%", "24"));
            faultOf(0, line.replace("%", "25") + " \n", 4, line.length() + 3);
            read(0, "size 8 8;" + line.replace("%", "63"));
        }
        for (int p = 0; p < 4; p++) {
            String twin = "twin " + p + " 0;";
            String all = "plead 0;".repeat(p);
            faultOf(0, all + twin, 4, all.length() + twin.length());
            faultOf(0, twin + all, 4, all.length() + twin.length());
            read(0, all + twin + "plead 0;");
            read(0, all + "plead 0;" + twin);
        }
        // who is not there is no FAULT of a TRIAL or a ROLL
        read(1, "go 3 0;say 3 9 9;");
        read(3, "know 5 9;");
    }

    private void inWalls() {
        String[] people = {"left 7 0 0 0;", "right 7 0 0 0;", "plead 7;", "plead 6;twin 0 7;", "plead 6;plead 6;twin 1 7;"};
        for (String line : people) {
            faultOf(0, "wall 7;" + line, 4, 7 + line.length());
            faultOf(0, line + "wall 7;\n", 4, 8 + line.length());
            faultOf(0, line + "wall 8 7;wall 9;", 4, 16 + line.length());
            read(0, line + "wall 8;");
            read(0, line + line.replace("twin 1", "twin 2") + "wall 8 12 2;");
        }
        faultOf(0, "size 8 8;left 63 0 0 0;wall 63;", 4, 31);
        faultOf(0, "left 0 0 0 0;wall 0;", 4, 20);
        String six = "left 1 0 0 0;".repeat(5) + "left 2 0 0 0;";
        faultOf(0, six + "wall 2;", 4, 85);
        String four = "plead 1;plead 1;plead 1;plead 2;";
        faultOf(0, four + "wall 2;", 4, 39);
        faultOf(0, four + "twin 3 3;wall 3;", 4, 48);
        // without a twin field 0 may well be a wall
        read(0, four + "wall 0;");
    }

    // ---- which of all FAULTS ----

    private void whichFault() {
        // 1 before 2, 3 and 4, wherever they are
        faultOf(0, "wall 99;plead 0;plead 0;plead 0;plead 0;plead 0;left 30 0 0 0;what", 1, 62);
        faultOf(0, "what wall 99;", 1, 0);
        faultOf(0, "twin 0 1;wall", 1, 13);
        // of two FAULTS 1 the first
        faultOf(0, "wall 1;? wall 1;!", 1, 7);
        // 2 and 3 by place, before 4
        String five = "plead 30;".repeat(5);
        faultOf(0, "wall 64;" + five, 2, 5);
        faultOf(0, five + "wall 64;", 3, 36);
        faultOf(0, "twin 0 30;wall 1 70;", 2, 17);
        faultOf(0, "plead 30;wall 3;size 5 9;", 2, 23);
        faultOf(0, "left 0 0 0 0;".repeat(7) + "plead 0;".repeat(5), 3, 78);
        faultOf(0, "plead 0;".repeat(5) + "left 0 0 0 0;".repeat(7), 3, 32);
        faultOf(1, "wait;".repeat(31) + "go 4 0;", 3, 150);
        faultOf(1, "say 0 0 10;" + "wait;".repeat(30), 2, 8);
        faultOf(2, "no 99 99;", 2, 3);
        faultOf(3, "know 9 99;", 2, 5);
    }

    private void struck() {
        OneEared x = read(0, "size 8 8;size 2 3;size 4 3;");
        due.is("the last size, W", x.court(0, 0), 4);
        due.is("the last size, H", x.court(0, 1), 3);
        x = read(0, "plead 1;twin 0 2;plead 3;twin 1 4;twin 0 5;twin 0 6;");
        due.is("the last twin of 0", x.pleader(0, 0, true), 6);
        due.is("the last twin of 1", x.pleader(0, 1, true), 4);
        x = read(0, "wall 1;wall 2;wall 1 3;left 4 1 2 3;left 4 0 0 0;right 4 1 2 3;plead 5;plead 5;");
        due.is("further walls", x.court(0, 2), 3);
        due.is("further judges", x.court(0, 3), 3);
        due.is("further pleaders", x.court(0, 4), 2);
        due.is("the first wall", x.wall(0, 1), true);
        due.is("the first judge", x.judge(0, 0, 4), 3);
        due.is("the second judge", x.judge(0, 1, 4), 0);
        due.is("the third judge", x.judge(0, 2, 2), 1);
        x = read(1, "wait;wait;go 0 1;go 0 1;");
        due.is("further deeds", x.deed(0, NONE, 0), 4);
        x = read(2, "yes - -;no - -;yes - -;");
        due.is("further rules", x.rule(0, NONE, 0), 3);
        due.is("the second rule", x.rule(0, 1, 0), 0);
        x = read(3, "know 1 1;know 1 1;");
        due.is("further claims", x.claim(0, NONE, 0), 2);
        // a struck size can't be, all the same
        faultOf(0, "size 9 5;size 5 5;", 2, 5);
    }

    // ---- promises 4 and 37 ----

    private void howMany() {
        int[] odd = {Integer.MIN_VALUE, -3, -2, 0, 1, 2, 3, Integer.MAX_VALUE};
        for (int sort = 0; sort < 4; sort++) {
            OneEared x = new OneEared();
            for (int had = 0; had <= 2; had++) {
                due.is("count of " + sort, x.count(sort), had);
                for (int at : odd) {
                    boolean there = at >= 0 && at < had;
                    due.is("text of " + had + " at " + at, Due.tell(x, sort, at, ""), there ? at : -2);
                    due.is("count of " + sort + " then", x.count(sort), had);
                }
                due.is("a further one of " + had, Due.tell(x, sort, NONE, ""), had < 2 ? had : -2);
            }
            for (int other = 0; other < 4; other++) {
                due.is("count of " + other, x.count(other), other == sort ? 2 : 0);
            }
            for (int wrong : new int[] {Integer.MIN_VALUE, -2, -1, 4, 5, Integer.MAX_VALUE}) {
                due.is("sort " + wrong, Due.tell(x, wrong, NONE, ""), -2);
                due.is("sort " + wrong + " in the place of one", Due.tell(x, wrong, 0, ""), -2);
                due.is("count of " + wrong, x.count(wrong), -2);
            }
        }
    }

    private void tapeBehindText() {
        int[][] calls = {{0, NONE}, {0, 0}, {0, 1}, {0, 2}, {0, -2}, {4, NONE}, {-1, 0}, {1, 0}, {1, NONE}, {1, NONE}, {1, NONE}};
        int[] answers = {1, 0, 1, -2, -2, -2, -2, -2, 0, 1, -2};
        OneEared x = new OneEared();
        Due.tell(x, 0, "");
        for (int i = 0; i < calls.length; i++) {
            String call = "text(" + calls[i][0] + ", " + calls[i][1] + ")";
            Due.put(x, "\n");
            due.is(call, x.text(calls[i][0], calls[i][1]), answers[i]);
            due.is("tape behind " + call, x.end(1), NONE);
            due.is("end(0) behind " + call, x.end(0), 0);
        }
        Due.put(x, "what");
        due.is("text at fault", x.text(0, 0), NONE);
        due.is("tape behind a fault", x.end(1), NONE);
        due.is("an empty text then", x.text(0, 0), 0);
    }

    // ---- promise 5 ----

    private void latestFault() {
        int[][] unread = {{0, 1}, {0, -2}, {1, 0}, {4, NONE}, {-1, NONE}, {-2, 0}, {3, NONE}};
        for (int[] call : unread) {
            OneEared x = new OneEared();
            Due.tell(x, 0, "");
            Due.tell(x, 3, "");
            Due.tell(x, 3, "");
            due.is("a fault", Due.tell(x, 0, "wall 99;"), NONE);
            due.is("which", x.fault(0), 2);
            due.is("where", x.fault(1), 5);
            // a text that would be at fault, but is not read
            Due.put(x, "wall 99 ?");
            x.feed(0, 0, 0, 0, 0);
            x.end(-1);
            x.court(0, 0);
            due.is("other calls keep it", x.fault(0), 2);
            due.is("other calls keep its place", x.fault(1), 5);
            due.is("no text is read", x.text(call[0], call[1]), -2);
            due.is("FAULT 0", x.fault(0), 0);
            due.is("no place", x.fault(1), NONE);
        }
        OneEared x = new OneEared();
        int[] faults = {1, 2, 3, 4};
        String[] texts = {"wall", "wall 64;", "plead 0;".repeat(5), "wall 25;"};
        int[] places = {4, 5, 32, 8};
        for (int i = 0; i < 4; i++) {
            due.is("text " + texts[i], Due.tell(x, 0, texts[i]), NONE);
            due.is("fault of " + texts[i], x.fault(0), faults[i]);
            due.is("place of " + texts[i], x.fault(1), places[i]);
            due.is("count with " + texts[i], x.count(0), 0);
        }
        due.is("without a fault", Due.tell(x, 0, "wall 1;"), 0);
        due.is("none", x.fault(0), 0);
        due.is("nowhere", x.fault(1), NONE);
    }

    // a text takes the whole place: nothing of what was told there, or in a text at fault, is left
    private void inThePlace() {
        OneEared x = new OneEared();
        String full = "size 3 3;wall 1 2;left 3 1 2 3;right 4 1 2 3;plead 5;twin 0 6;plead 7;twin 1 8;";
        for (int i = 0; i < 2; i++) {
            due.is("a full court", Due.tell(x, 0, full), i);
        }
        for (int i = 0; i < 3; i++) {
            due.is("a full one at fault", Due.tell(x, 0, i % 2, full + "?"), NONE);
            due.is("it is still full", x.court(0, 3), i == 0 ? 2 : 1);
            due.is("in the place of it", Due.tell(x, 0, i % 2, "left 0 0 0 0;plead 24;"), i % 2);
            due.is("W", x.court(i % 2, 0), 5);
            due.is("H", x.court(i % 2, 1), 5);
            due.is("walls", x.court(i % 2, 2), 0);
            due.is("judges", x.court(i % 2, 3), 1);
            due.is("pleaders", x.court(i % 2, 4), 1);
            due.is("no twin", x.pleader(i % 2, 0, true), NONE);
            due.is("side", x.judge(i % 2, 0, 1), 0);
        }
        due.is("a pleader more", Due.tell(x, 0, 0, "plead 0;plead 1;"), 0);
        due.is("without a twin", x.pleader(0, 1, true), NONE);
        String[] lists = {"say 1 2 3;go 3 2;wait;", "yes 1 2;no 3 4;", "know 1 2;know 3 4;"};
        String[] shorter = {"wait;", "no - 5;", "know 0 6;"};
        for (int sort = 1; sort < 4; sort++) {
            for (int i = 0; i < 2; i++) {
                Due.tell(x, sort, lists[sort - 1]);
            }
            due.is("a list at fault", Due.tell(x, sort, 0, lists[sort - 1] + "?"), NONE);
            due.is("in the place of 0", Due.tell(x, sort, 0, shorter[sort - 1]), 0);
        }
        due.is("deeds of 0", x.deed(0, NONE, 0), 1);
        due.is("deeds of 1", x.deed(1, NONE, 0), 3);
        due.is("a wait's number", x.deed(0, 0, 1), NONE);
        due.is("rules of 0", x.rule(0, NONE, 0), 1);
        due.is("rules of 1", x.rule(1, NONE, 0), 2);
        due.is("no first word", x.rule(0, 0, 1), NONE);
        due.is("its second word", x.rule(0, 0, 2), 5);
        due.is("claims of 0", x.claim(0, NONE, 0), 1);
        due.is("claims of 1", x.claim(1, NONE, 0), 2);
        due.is("its word", x.claim(0, 0, 1), 6);
    }

    // ---- promises 38 and 39 ----

    private void images() {
        int[] odd = {Integer.MIN_VALUE, -2, -1, 3, 4, Integer.MAX_VALUE};
        OneEared x = new OneEared();
        for (int k : odd) {
            due.is("image " + k, x.image(k), false);
            due.is("again " + k, x.again(k), false);
        }
        for (int k = 0; k < 3; k++) {
            due.is("no image yet, " + k, x.again(k), false);
            Due.tell(x, 0, k == 0 ? NONE : 0, "size 2 " + (k + 2) + ";");
            due.is("image " + k, x.image(k), true);
        }
        for (int k = 2; k >= 0; k--) {
            due.is("again " + k, x.again(k), true);
            due.is("H of image " + k, x.court(0, 1), k + 2);
        }
        for (int k : odd) {
            due.is("no image " + k, x.image(k), false);
            due.is("no such image again " + k, x.again(k), false);
            due.is("nothing changes", x.court(0, 1), 2);
        }
        due.is("image 1 newly", x.image(1), true);
        due.is("image 1 again", x.again(1), true);
        due.is("it is the newer", x.court(0, 1), 2);
        due.is("image 2 again", x.again(2), true);
        due.is("it is as it was", x.court(0, 1), 4);
        // an image of nothing
        OneEared y = new OneEared();
        due.is("image of nothing", y.image(0), true);
        for (int sort = 0; sort < 4; sort++) {
            Due.tell(y, sort, "");
            Due.tell(y, sort, "");
        }
        Due.put(y, "wall");
        due.is("nothing again", y.again(0), true);
        due.is("no tape", y.end(1), NONE);
        for (int sort = 0; sort < 4; sort++) {
            due.is("count " + sort, y.count(sort), 0);
            due.is("text in the place of none", Due.tell(y, sort, 0, ""), -2);
            due.is("the first again", Due.tell(y, sort, ""), 0);
        }
        due.is("image 1 was never made", y.again(1), false);
    }

    private void imagesAreTheirOwn() {
        OneEared x = new OneEared();
        Due.tell(x, 0, "size 3 3;wall 1;left 2 1 2 3;plead 4;twin 0 5;");
        Due.tell(x, 1, "go 0 3;wait;");
        Due.tell(x, 2, "yes 1 2;");
        Due.tell(x, 3, "know 0 7;");
        due.is("a fault", Due.tell(x, 3, "know 0 10;"), NONE);
        Due.put(x, "wait;wait;?");
        due.is("image", x.image(2), true);
        for (int i = 0; i < 2; i++) {
            due.is("text, in the place of the trial", x.text(1, 0), i == 0 ? NONE : 0);
            Due.tell(x, 0, 0, "size 4 4;wall 2;right 3 0 0 0;plead 5;");
            Due.tell(x, 0, "wall 9;");
            Due.tell(x, 1, 0, "wait;wait;wait;");
            Due.tell(x, 2, 0, "no - -;");
            Due.tell(x, 3, 0, "know 5 5;");
            due.is("again", x.again(2), true);
            due.is("fault", x.fault(0), 2);
            due.is("place", x.fault(1), 7);
            int[] court = {3, 3, 1, 1, 1};
            for (int what = 0; what < 5; what++) {
                due.is("court " + what, x.court(0, what), court[what]);
            }
            int[] judge = {2, 1, 0, 2, 3};
            for (int what = 0; what < 5; what++) {
                due.is("judge " + what, x.judge(0, 0, what), judge[what]);
            }
            due.is("wall", x.wall(0, 1), true);
            due.is("no wall", x.wall(0, 2), false);
            due.is("pleader", x.pleader(0, 0, false), 4);
            due.is("twin", x.pleader(0, 0, true), 5);
            due.is("comes, as the court lies again", x.comes(0, 0, 8, 0), 2);
            due.is("deeds", x.deed(0, NONE, 0), 2);
            due.is("deed", x.deed(0, 0, 2), 3);
            due.is("rule", x.rule(0, 0, 2), 2);
            due.is("claim", x.claim(0, 0, 1), 7);
            for (int sort = 0; sort < 4; sort++) {
                due.is("count " + sort, x.count(sort), 1);
            }
            due.is("tape", x.end(12), NONE);
            due.is("the tape's first lines", x.end(10), 10);
        }
    }

    private static String numbered(int sort, int number) {
        return switch (sort) {
            case 0 -> "size " + number + " 2;";
            case 1 -> "go " + number + " 0;";
            case 2 -> "yes " + number + " -;";
            default -> "know 0 " + number + ";";
        };
    }

    private static int numberOf(OneEared x, int sort, int at) {
        return switch (sort) {
            case 0 -> x.court(at, 0);
            case 1 -> x.deed(at, 0, 1);
            case 2 -> x.rule(at, 0, 1);
            default -> x.claim(at, 0, 1);
        };
    }

    // of each sort an image has as many as there were, however many there were of the others
    private void imagesOfEachSort() {
        for (int sort = 0; sort < 4; sort++) {
            for (int many = 0; many <= 2; many++) {
                OneEared x = new OneEared();
                for (int i = 0; i < many; i++) {
                    due.is("told", Due.tell(x, sort, numbered(sort, 2 + i)), i);
                }
                due.is("image", x.image(0), true);
                for (int other = 0; other < 4; other++) {
                    for (int i = 0; i < 2; i++) {
                        boolean there = i < x.count(other);
                        due.is("told behind the image", Due.tell(x, other, there ? i : NONE, other == 1 ? "go 1 0;" : numbered(other, 7)), i);
                    }
                }
                due.is("again", x.again(0), true);
                for (int other = 0; other < 4; other++) {
                    due.is("count " + other + " of " + many, x.count(other), other == sort ? many : 0);
                }
                for (int i = 0; i < many; i++) {
                    due.is("number of " + i + " of sort " + sort, numberOf(x, sort, i), 2 + i);
                }
            }
        }
    }

    private void imageOfFullTape() {
        OneEared x = new OneEared();
        Due.put(x, " ".repeat(590) + "wait;wait;");
        due.is("image", x.image(2), true);
        Due.put(x, "?".repeat(600));
        for (int i = 0; i < 2; i++) {
            due.is("again", x.again(2), true);
            due.is("601 bytes", x.end(601), NONE);
            due.is("600 bytes", x.end(600), 600);
            due.is("no room", x.feed(0, 0, 0, 0, 0), NONE);
            due.is("text", x.text(1, NONE), 0);
            due.is("deeds", x.deed(0, NONE, 0), 2);
        }
    }
}
