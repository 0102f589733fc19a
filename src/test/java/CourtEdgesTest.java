import java.util.stream.Collectors;
import java.util.stream.IntStream;

/** Courts at their edges: sizes, the first and last FIELDS, REACH, LOUD, hours, ties. Promises 6 to 16, 30, 34. */
final class CourtEdgesTest {
    private static final int NONE = OneEared.NONE;

    private final Due due = new Due();

    public static void main(String[] args) {
        CourtEdgesTest test = new CourtEdgesTest();
        test.openCourts();
        test.openCourtsWhole();
        test.allWalls();
        test.oneField();
        test.lastField();
        test.rowEnds();
        test.walledOff();
        test.reachAndLoud();
        test.loudest();
        test.turns();
        test.quarters();
        test.pulpits();
        test.nears();
        test.echoes();
        test.rounds();
        test.roundsByHours();
        test.sixtyHours();
        test.hushes();
        test.areas();
        test.carves();
        test.due.close();
    }

    private static String fields(int from, int to) {
        return IntStream.rangeClosed(from, to).mapToObj(f -> " " + f).collect(Collectors.joining());
    }

    // ---- open courts, where FAR and sides can be told from columns and rows ----

    /** field, side, ear, reach, turn */
    private static int heardIn(int w, int[] judge, int field, int hour, int loud) {
        int sides = sidesIn(w, judge, field, hour);
        int far = Math.abs(field % w - judge[0] % w) + Math.abs(field / w - judge[0] / w);
        int ear = judge[2] == 0 ? 8 : 2;
        return far <= judge[3] + loud && (sides & (1 | ear)) != 0 ? 1 : 0;
    }

    private static int sidesIn(int w, int[] judge, int field, int hour) {
        int east = Integer.signum(field % w - judge[0] % w);
        int south = Integer.signum(field / w - judge[0] / w);
        if (east == 0 && south == 0) {
            return 15;
        }
        boolean[] from = {south < 0, east > 0, south > 0, east < 0};
        int bits = 0;
        for (int sits = 0; sits < 4; sits++) {
            bits |= from[(judge[1] + hour * judge[4] + sits) % 4] ? 1 << sits : 0;
        }
        return bits;
    }

    private static String told(int[] judge) {
        return (judge[2] == 0 ? "left " : "right ") + judge[0] + " " + judge[1] + " " + judge[3] + " " + judge[4] + ";";
    }

    private void openCourts() {
        int[][] sizes = {{2, 2}, {2, 8}, {8, 2}, {8, 8}, {3, 5}};
        int[] hours = {0, 1, 2, 3, 4, 98, 99};
        for (int[] size : sizes) {
            int fields = size[0] * size[1];
            for (int i = 0; i < hours.length; i++) {
                int hour = hours[i];
                int[] judge = {i == 0 ? 0 : i == 1 ? fields - 1 : 7 * i % fields, i % 4, i % 2, i % 2 == 0 ? i : 9, (i + 1) % 4};
                OneEared x = Due.of("size " + size[0] + " " + size[1] + ";" + told(judge));
                for (int f = 0; f < fields; f++) {
                    String at = " from " + f + " at hour " + hour + " in " + size[0] + " by " + size[1];
                    due.is("comes" + at, x.comes(0, 0, f, hour), sidesIn(size[0], judge, f, hour));
                    due.is("ears" + at, x.ears(0, f, hour, 0), heardIn(size[0], judge, f, hour, 0));
                    due.is("ears, loud 9," + at, x.ears(0, f, hour, 9), heardIn(size[0], judge, f, hour, 9));
                    int hush = NONE;
                    for (int loud = 9; loud >= 0; loud--) {
                        hush = heardIn(size[0], judge, f, hour, loud) > 0 ? loud : hush;
                    }
                    due.is("hush" + at, x.hush(0, f, hour, 1), hush);
                    due.is("far" + at, x.far(0, f, judge[0]),
                            Math.abs(f % size[0] - judge[0] % size[0]) + Math.abs(f / size[0] - judge[0] / size[0]));
                }
            }
        }
    }

    private void openCourtsWhole() {
        int[][][] benches = {
            {{0, 1, 0, 9, 0}},
            {{63, 0, 0, 3, 1}, {0, 2, 1, 3, 2}},
            {{27, 3, 1, 2, 3}, {27, 3, 0, 2, 3}, {36, 1, 1, 1, 1}},
            {{7, 0, 0, 0, 0}, {56, 1, 1, 0, 1}, {63, 2, 0, 0, 2}, {0, 3, 1, 0, 3}, {35, 0, 0, 4, 1}, {28, 2, 1, 4, 1}}};
        for (int[][] bench : benches) {
            StringBuilder text = new StringBuilder("size 8 8;");
            for (int[] judge : bench) {
                text.append(told(judge));
            }
            OneEared x = Due.of(text.toString());
            int[] blind = new int[4];
            for (int hour = 0; hour < 4; hour++) {
                for (int loud = 0; loud < 10; loud += 9) {
                    int[] ears = ears(bench, hour, loud);
                    int most = IntStream.of(ears).map(Integer::bitCount).max().getAsInt();
                    int first = IntStream.range(0, 64).filter(f -> Integer.bitCount(ears[f]) == most).findFirst().getAsInt();
                    due.is("pulpit of 8 by 8", x.pulpit(0, hour, loud, false), first);
                    due.is("pulpit of 8 by 8, many", x.pulpit(0, hour, loud, true), most);
                    due.is("ears of the pulpit", x.ears(0, first, hour, loud), ears[first]);
                    if (hour == 0) {
                        due.is("blind in 8 by 8", x.echo(0, NONE, NONE, loud), IntStream.of(ears).filter(e -> e == 0).count());
                        due.is("heard in 8 by 8", x.echo(0, 0, NONE, loud), IntStream.of(ears).filter(e -> (e & 1) != 0).count());
                        due.is("echo in 8 by 8", x.echo(0, 0, 1, loud),
                                bench.length == 1 ? NONE : IntStream.of(ears).filter(e -> (e & 3) == 3).count());
                    }
                }
                blind[hour] = (int) IntStream.of(ears(bench, hour, 0)).filter(e -> e == 0).count();
            }
            int least = IntStream.of(blind).min().getAsInt();
            due.is("quarter of 8 by 8", x.court(0, 5), IntStream.range(0, 4).filter(h -> blind[h] == least).findFirst().getAsInt());
        }
    }

    private static int[] ears(int[][] bench, int hour, int loud) {
        int[] ears = new int[64];
        for (int f = 0; f < 64; f++) {
            for (int j = 0; j < bench.length; j++) {
                ears[f] |= heardIn(8, bench[j], f, hour, loud) << j;
            }
        }
        return ears;
    }

    // ---- the fewest and the last FIELDS ----

    private void allWalls() {
        OneEared x = Due.of("size 8 8;wall" + fields(0, 63) + ";");
        due.is("walls", x.court(0, 2), 64);
        due.is("judges", x.court(0, 3), 0);
        due.is("quarter", x.court(0, 5), 0);
        for (int f = 0; f < 64; f++) {
            due.is("wall " + f, x.wall(0, f), true);
        }
        for (int f : new int[] {Integer.MIN_VALUE, -64, -1, 64, 65, 127, 128, Integer.MAX_VALUE}) {
            due.is("wall " + f, x.wall(0, f), false);
        }
        due.is("far", x.far(0, 63, 63), NONE);
        due.is("ears", x.ears(0, 63, 0, 0), NONE);
        due.is("hush", x.hush(0, 0, 0, 1), NONE);
        due.is("pulpit", x.pulpit(0, 0, 9, false), NONE);
        due.is("blind", x.echo(0, NONE, NONE, 0), 0);
        due.is("areas", x.areas(0, NONE), 0);
        due.is("carve, all even", x.areas(0, 0), 0);
        due.is("no walls", Due.of("").court(0, 2), 0);
        due.is("a wall that is told twice", Due.of("wall 3 3;wall 3;").court(0, 2), 1);
    }

    private void oneField() {
        for (int only : new int[] {0, 31, 32, 63}) {
            String walls = "wall" + (only == 0 ? "" : fields(0, only - 1)) + (only == 63 ? "" : fields(only + 1, 63)) + ";";
            OneEared x = Due.of("size 8 8;" + walls + "left " + only + " 0 0 1;plead " + only + ";twin 0 " + only + ";");
            Due.tell(x, Due.TRIAL, "say 0 9 0;go 0 0;");
            due.is("walls", x.court(0, 2), 63);
            due.is("areas", x.areas(0, NONE), 1);
            due.is("pulpit", x.pulpit(0, 0, 0, false), only);
            due.is("many", x.pulpit(0, 0, 0, true), 1);
            due.is("far", x.far(0, only, only), 0);
            due.is("near", x.near(0, 0, 0, 0), 0);
            due.is("round", x.round(0, 0, 0, 0), 1);
            due.is("way", x.round(0, 0, 0, 10), 4);
            due.is("blind", x.echo(0, NONE, NONE, 0), 0);
            due.is("heard", x.echo(0, 0, NONE, 9), 1);
            due.is("hush", x.hush(0, only, 99, 1), 0);
            due.is("stop", x.stop(0, 0), 1);
            due.is("knows", x.knows(0, 0, 1, 0), 512);
            due.is("carve, all even", x.areas(0, 0), only == 0 ? 1 : 0);
        }
    }

    private void lastField() {
        OneEared x = Due.of("size 8 8;left 63 0 0 0;left 62 1 0 0;plead 0;plead 62;twin 1 63;");
        due.is("far 0 63", x.far(0, 0, 63), 14);
        due.is("far 63 0", x.far(0, 63, 0), 14);
        due.is("far 63 63", x.far(0, 63, 63), 0);
        due.is("far 55 63", x.far(0, 55, 63), 1);
        due.is("near", x.near(0, 0, 0, 0), 14);
        due.is("near by loud 9", x.near(0, 0, 0, 9), 5);
        due.is("twin", x.pleader(0, 1, true), 63);
        way(x, 0, 0, 1, 1, 1, 1, 1, 1, 2, 2, 2, 2, 2, 2, 2, 4, 1, 4);
        due.is("hush 63", x.hush(0, 63, 0, 2), 1);
        due.is("hush 62", x.hush(0, 62, 0, 2), 1);
        due.is("ears 63", x.ears(0, 63, 0, 0), 1);
        due.is("ears 63, louder", x.ears(0, 63, 0, 1), 3);
        due.is("echo, louder", x.echo(0, 0, 1, 1), 2);
        OneEared pulpit = Due.of("size 8 8;right 63 3 9 0;right 63 3 0 0;");
        due.is("pulpit on the last", pulpit.pulpit(0, 0, 0, false), 63);
        OneEared last = Due.of("size 8 8;wall 0 63;left 62 1 0 0;");
        due.is("carve the last", last.areas(0, 1), 63);
        due.is("carve, even", last.areas(0, 0), 0);
        OneEared corner = Due.of("size 8 8;wall 55 62;");
        due.is("the last is a part", corner.areas(0, NONE), 2);
        due.is("no way to the last", corner.far(0, 0, 63), NONE);
    }

    // sound and steps go round no edge
    private void rowEnds() {
        for (int w = 2; w <= 8; w++) {
            for (int h = 2; h <= 8; h += 3) {
                int far = w * h - 1;
                OneEared x = Due.of("size " + w + " " + h + ";left " + w + " 3 9 0;right " + (w - 1) + " 1 9 0;plead " + (w - 1)
                        + ";plead " + w + ";plead " + far + ";twin 2 0;plead 0;twin 3 " + far + ";");
                due.is("far round an edge", x.far(0, w - 1, w), w);
                due.is("far from corner to corner", x.far(0, 0, far), w + h - 2);
                due.is("comes round no western edge", x.comes(0, 0, w - 1, 0), 2 + 4);
                due.is("comes round no eastern edge", x.comes(0, 1, w, 0), 2 + 4);
                String[] trials = {"go 0 1;", "go 1 3;", "go 2 2;", "go 2 1;", "go 3 0;", "go 3 3;", "go 0 0;"};
                for (String trial : trials) {
                    Due.tell(x, Due.TRIAL, x.count(1) == 0 ? NONE : 0, trial);
                    due.is("no step over the edge: " + trial, x.stop(0, 0), 0);
                }
                // the twin goes the other way round, and stays at the edge while the pleader steps
                Due.tell(x, Due.TRIAL, 0, "go 2 0;go 2 3;go 3 1;go 3 2;");
                due.is("all steps", x.stop(0, 0), 4);
                int[][] twin = {{0, far}, {w, far}, {w + 1, far}, {w + 1, far - 1}, {w + 1, far - 1 - w}};
                for (int n = 0; n < 5; n++) {
                    due.is("twin 2 behind " + n, x.stands(0, 0, n, 2, true), twin[n][0]);
                    due.is("twin 3 behind " + n, x.stands(0, 0, n, 3, true), twin[n][1]);
                }
                Due.tell(x, Due.TRIAL, 0, "go 2 0;go 2 3;go 0 3;");
                due.is("the pleader goes north and west", x.stands(0, 0, 2, 2, false), far - w - 1);
                due.is("the other goes west", x.stands(0, 0, 3, 0, false), w - 2);
            }
        }
    }

    private void walledOff() {
        // 0 # 2
        // # # #
        // 6 # 8
        OneEared x = Due.of("size 3 3;wall 1 3 4 5 7;left 0 2 9 0;right 8 0 9 1;plead 2;plead 0;twin 1 8;");
        due.is("far, none", x.far(0, 0, 8), NONE);
        due.is("far of itself", x.far(0, 2, 2), 0);
        due.is("comes, none", x.comes(0, 0, 2, 0), NONE);
        due.is("comes of itself", x.comes(0, 0, 0, 99), 15);
        due.is("ears of nobody", x.ears(0, 2, 0, 9), 0);
        due.is("near, none", x.near(0, 0, 0, 9), NONE);
        due.is("near at once", x.near(0, 0, 1, 0), 0);
        due.is("near without his twin", x.near(0, 1, 1, 9), NONE);
        due.is("round, none", x.round(0, 0, 9, 0), NONE);
        due.is("round without his twin", x.round(0, 1, 9, 0), NONE);
        due.is("echo", x.echo(0, 0, 1, 9), 0);
        due.is("blind", x.echo(0, NONE, NONE, 9), 2);
        due.is("hush, none", x.hush(0, 2, 0, 1), NONE);
        due.is("areas", x.areas(0, NONE), 4);
        Due.tell(x, Due.TRIAL, "say 1 3 0;go 1 0;");
        due.is("stop at a wall's edge", x.stop(0, 0), 1);
        due.is("the twin says it, too", x.heard(0, 0, 0), 3);
        Due.tell(x, Due.TRIAL, 0, "go 0 3;");
        due.is("stop at a wall", x.stop(0, 0), 0);
    }

    // ---- REACH, LOUD, hours ----

    // a way of 40 fields that winds through rows 0, 2, 4, 6 and 8 columns
    private static final String WINDING = "size 8 8;wall" + fields(8, 14) + fields(25, 31) + fields(40, 46) + fields(57, 63) + ";";

    private void reachAndLoud() {
        // the judge on 0 faces east; 32 is 18 far, 33 is 19, 22 is 10, 23 is 9, 1 is 1
        int[][] fields = {{0, 0}, {1, 1}, {2, 2}, {15, 8}, {23, 9}, {22, 10}, {16, 16}, {24, 17}, {32, 18}, {33, 19}, {39, 25}, {56, 35}};
        for (int reach : new int[] {0, 1, 8, 9}) {
            OneEared x = Due.of(WINDING + "right 0 1 " + reach + " 0;left 0 3 9 0;");
            for (int[] field : fields) {
                due.is("far " + field[0], x.far(0, 0, field[0]), field[1]);
                int hush = Math.max(0, field[1] - reach);
                due.is("hush " + field[0] + " by " + reach, x.hush(0, field[0], 0, 1), field[1] == 0 ? 0 : hush > 9 ? NONE : hush);
                for (int loud : new int[] {0, 1, 8, 9}) {
                    int ears = field[1] == 0 ? 3 : field[1] <= reach + loud ? 1 : 0;
                    due.is("ears " + field[0] + " by " + reach + " and " + loud, x.ears(0, field[0], 0, loud), ears);
                }
                due.is("comes, however far", x.comes(0, 0, field[0], 0), field[1] == 0 ? 15 : 1);
            }
            due.is("heard by loud 0", x.echo(0, 0, NONE, 0), 1 + reach);
            due.is("heard by loud 9", x.echo(0, 0, NONE, 9), 10 + reach);
        }
    }

    private void loudest() {
        OneEared x = Due.of(WINDING + "right 0 1 9 0;plead 56;plead 33;plead 32;");
        due.is("near from 35 far", x.near(0, 0, 0, 9), 17);
        due.is("near from 19 far", x.near(0, 0, 1, 9), 1);
        due.is("near from 18 far", x.near(0, 0, 2, 9), 0);
        due.is("near from 18 far, by 8", x.near(0, 0, 2, 8), 1);
        due.is("near from 35 far, by 0", x.near(0, 0, 0, 0), 26);
        due.is("round from 19 far", x.round(0, 1, 9, 0), 2);
        due.is("round from 18 far", x.round(0, 2, 9, 0), 1);
        Due.tell(x, Due.TRIAL, "say 1 0 9;say 2 1 8;say 2 9 9;");
        due.is("19 by 9 and 9", x.heard(0, 0, 0), 0);
        due.is("18 by 9 and 8", x.heard(0, 0, 1), 0);
        due.is("18 by 9 and 9", x.heard(0, 0, 2), 1);
        due.is("words 0 to 9", x.knows(0, 0, 3, 0), 512);
        due.is("lost, 0 and 1", x.knows(0, 0, 3, -2), 3);
    }

    private void turns() {
        for (int side = 0; side < 4; side++) {
            for (int turn = 0; turn < 4; turn++) {
                OneEared x = Due.of("left 12 " + side + " 9 " + turn + ";");
                for (int hour : new int[] {0, 1, 2, 3, 4, 5, 50, 97, 98, 99}) {
                    int faces = (side + hour * turn) % 4;
                    due.is("faces at hour " + hour, x.judge(0, 0, 10 + hour), faces);
                    // 7 is north of 12, 13 east, 17 south, 11 west
                    int[] beside = {7, 13, 17, 11};
                    int[] sits = {1, 2, 4, 8};
                    for (int i = 0; i < 4; i++) {
                        due.is("comes at hour " + hour, x.comes(0, 0, beside[(faces + i) % 4], hour), sits[i]);
                        due.is("left ear at hour " + hour, x.ears(0, beside[(faces + i) % 4], hour, 0), i == 0 || i == 3 ? 1 : 0);
                    }
                }
                due.is("hour 100", x.judge(0, 0, 110), NONE);
                due.is("side stays", x.judge(0, 0, 1), side);
                due.is("turn stays", x.judge(0, 0, 4), turn);
            }
        }
    }

    private void quarters() {
        // a judge in the north-western corner of a 2 by 5 court with the left ear: facing south he
        // HEARS all but nothing when north; turned by one from each side, the hour comes later
        int[][] told = {{2, 0}, {1, 1}, {0, 2}, {3, 3}};
        for (int[] way : told) {
            OneEared x = Due.of("size 2 5;left 0 " + way[0] + " 9 1;");
            due.is("quarter from side " + way[0], x.court(0, 5), way[1]);
        }
        // by loud 0 only: with reach 0 he HEARS himself alone at all hours
        due.is("quarter, all even", Due.of("left 12 2 0 1;").court(0, 5), 0);
        due.is("quarter without judges", Due.of("").court(0, 5), 0);
        // turned by two he faces south at hours 1 and 3: the first of both
        due.is("quarter, the first", Due.of("size 2 5;left 0 0 9 2;").court(0, 5), 1);
    }

    private void pulpits() {
        OneEared x = Due.of("left 12 0 0 0;right 12 0 0 0;left 13 0 0 0;");
        due.is("most ears", x.pulpit(0, 0, 0, false), 12);
        due.is("most ears, many", x.pulpit(0, 0, 0, true), 2);
        // by loud 1: 7 is heard by 0 and 1; 8 by 2; 11 by 0; 12 by 0, 1 and 2
        due.is("by loud 1", x.pulpit(0, 0, 1, true), 3);
        due.is("by loud 1, which", x.pulpit(0, 0, 1, false), 12);
        x = Due.of("left 12 0 0 0;left 24 0 0 0;left 3 0 0 0;");
        due.is("of several the least", x.pulpit(0, 0, 0, false), 3);
        x = Due.of("wall 0 1 2;");
        due.is("nobody hears, no wall", x.pulpit(0, 99, 9, false), 3);
        due.is("nobody hears, many", x.pulpit(0, 99, 9, true), 0);
        x = Due.of("left 24 3 9 1;");
        due.is("at hour 0 he faces west", x.pulpit(0, 0, 0, false), 0);
        due.is("at hour 1 north", x.pulpit(0, 1, 0, false), 0);
        due.is("at hour 2 east: his left is north", x.pulpit(0, 2, 0, false), 0);
        due.is("at hour 3 south: his left is east", x.pulpit(0, 3, 0, false), 24);
        due.is("at hour 99 south", x.pulpit(0, 99, 0, false), 24);
        due.is("at hour 99, many", x.pulpit(0, 99, 0, true), 1);
    }

    private void nears() {
        // the judge on 12 faces north at hour 0, right ear; the pleader on 22 is straight behind
        OneEared x = Due.of("right 12 0 1 1;plead 22;plead 12;plead 10;plead 13;");
        due.is("round behind him", x.near(0, 0, 0, 0), 2);
        due.is("louder", x.near(0, 0, 0, 1), 2);
        due.is("by loud 3", x.near(0, 0, 0, 3), 1);
        due.is("on his own field", x.near(0, 0, 1, 0), 0);
        // two west of him: ahead is 7, which is three off, but 12 itself is two
        due.is("from his deaf side", x.near(0, 0, 2, 0), 2);
        due.is("from his deaf side by 9", x.near(0, 0, 2, 9), 1);
        due.is("at his ear", x.near(0, 0, 3, 0), 0);
    }

    private void echoes() {
        OneEared x = Due.of("left 12 0 1 0;right 12 0 1 0;left 14 3 2 1;");
        due.is("ahead and himself", x.echo(0, 0, 1, 0), 2);
        due.is("as many the other way round", x.echo(0, 1, 0, 0), 2);
        due.is("of 0 alone", x.echo(0, 0, NONE, 0), 3);
        due.is("of 2 alone, at hour 0", x.echo(0, 2, NONE, 0), 7);
        due.is("of 0 and 2", x.echo(0, 0, 2, 0), 1);
        due.is("of 1 and 2", x.echo(0, 1, 2, 0), 2);
        // they hear 7 12 11, 7 12 13, and 14 13 12 8 18 19 24: from 8 the word comes by 13, too
        due.is("blind", x.echo(0, NONE, NONE, 0), 25 - 9);
        for (int j = 0; j < 3; j++) {
            due.is("both are one", x.echo(0, j, j, 0), NONE);
        }
        for (int j : new int[] {-2, 3}) {
            due.is("no such b", x.echo(0, 0, j, 0), NONE);
            due.is("no such a", x.echo(0, j, 0, 0), NONE);
            due.is("no such a, b none", x.echo(0, j, NONE, 0), NONE);
            due.is("no such b, a none", x.echo(0, NONE, j, 0), NONE);
        }
        due.is("b alone", x.echo(0, NONE, 0, 0), NONE);
        due.is("without judges all are blind", Due.of("wall 4;").echo(0, NONE, NONE, 9), 24);
    }

    // ---- ROUND ----

    private void way(OneEared x, int pleader, int loud, int... acts) {
        due.is("round of " + pleader, x.round(0, pleader, loud, 0), acts.length);
        for (int i = 0; i < acts.length; i++) {
            due.is("round of " + pleader + ", hour " + i, x.round(0, pleader, loud, 10 + i), acts[i]);
        }
        due.is("round of " + pleader + ", behind", x.round(0, pleader, loud, 10 + acts.length), NONE);
        due.is("round of " + pleader + ", hour 59", x.round(0, pleader, loud, 69), NONE);
    }

    private void rounds() {
        // on the judge's own field he is heard at once
        way(Due.of("left 12 0 0 0;plead 12;"), 0, 0, 4);
        // of two ways the first by rows: north before east, east before south, south before west
        way(Due.of("left 7 0 0 0;plead 11;"), 0, 0, 0, 1, 4);
        way(Due.of("left 18 0 0 0;plead 12;"), 0, 0, 1, 2, 4);
        way(Due.of("left 16 0 0 0;plead 12;"), 0, 0, 2, 3, 4);
        way(Due.of("left 6 0 0 0;plead 12;"), 0, 0, 0, 3, 4);
        // two judges, one after the other: what comes first by rows goes first
        way(Due.of("left 11 0 0 0;left 13 0 0 0;plead 12;"), 0, 0, 1, 4, 3, 3, 4);
        way(Due.of("left 7 0 0 0;left 17 0 0 0;plead 12;"), 0, 0, 0, 4, 2, 2, 4);
        // both from one field, one word
        way(Due.of("left 12 0 0 0;right 12 0 0 0;plead 12;"), 0, 0, 4);
        // by loud: from 7 he is two off, ahead
        way(Due.of("left 17 0 0 0;plead 7;"), 0, 2, 4);
        way(Due.of("left 17 0 0 0;plead 7;"), 0, 1, 2, 4);
        way(Due.of("left 17 0 0 0;plead 7;"), 0, 0, 2, 2, 4);
        // six judges in a row of a 2 by 8 court
        StringBuilder row = new StringBuilder("size 8 2;");
        for (int f = 1; f < 7; f++) {
            row.append("left ").append(f).append(" 0 0 0;");
        }
        OneEared six = Due.of(row + "plead 1;plead 6;plead 0;");
        way(six, 0, 0, 4, 1, 4, 1, 4, 1, 4, 1, 4, 1, 4);
        way(six, 1, 0, 4, 3, 4, 3, 4, 3, 4, 3, 4, 3, 4);
        way(six, 2, 0, 1, 4, 1, 4, 1, 4, 1, 4, 1, 4, 1, 4);
        // from corner to corner: when he says it he could be on each of 64 fields
        way(Due.of("size 8 8;left 63 0 0 0;plead 0;"), 0, 0, 1, 1, 1, 1, 1, 1, 1, 2, 2, 2, 2, 2, 2, 2, 4);
        way(Due.of("size 8 8;left 0 0 0 0;plead 63;"), 0, 0, 0, 0, 0, 0, 0, 0, 0, 3, 3, 3, 3, 3, 3, 3, 4);
        way(Due.of("size 8 8;left 7 0 0 0;plead 56;"), 0, 0, 0, 0, 0, 0, 0, 0, 0, 1, 1, 1, 1, 1, 1, 1, 4);
        way(Due.of("size 8 8;left 56 0 0 0;plead 7;"), 0, 0, 2, 2, 2, 2, 2, 2, 2, 3, 3, 3, 3, 3, 3, 3, 4);
        // the twin does not help: he stands on the judge's field
        way(Due.of("left 10 0 0 0;plead 12;twin 0 10;"), 0, 0, 3, 3, 4);
        for (int p = 0; p < 2; p++) {
            due.is("without judges", Due.of("plead 0;plead 1;").round(0, p, 9, 0), NONE);
            due.is("without judges, way", Due.of("plead 0;plead 1;").round(0, p, 9, 10), NONE);
        }
    }

    private void roundsByHours() {
        // he faces north at hour 0, turns by one; the ear is left: behind him at hour 0, 17 is to
        // his right at 1, ahead at 2; to walk on his field takes two hours, too, and goes first
        way(Due.of("left 12 0 1 1;plead 17;"), 0, 0, 0, 4);
        way(Due.of("size 3 3;wall 0 2 3 5 6 7 8;right 4 2 1 1;plead 1;"), 0, 0, 2, 4);
        OneEared ahead = Due.of("size 3 3;wall 0 2 3 5 6 7 8;right 4 3 1 0;plead 1;plead 4;");
        way(ahead, 0, 0, 4);
        way(ahead, 1, 0, 4);
        // just from 2 both HEAR, and just at hour 1: till then he says it in vain, for 4 stands before 5
        way(Due.of("size 5 2;wall 5 6 7 8 9;left 0 0 2 1;left 4 2 2 1;plead 2;"), 0, 0, 4, 4);
        way(Due.of("size 5 2;wall 5 6 7 8 9;left 0 3 2 1;left 4 1 2 1;plead 2;"), 0, 0, 1, 3, 4);
        // he faces south, west, north: the pleader may go one step off, and must be back at hour 2
        way(Due.of(WINDING + "left 56 2 9 1;plead 55;"), 0, 0, 0, 2, 4);
        way(Due.of(WINDING + "left 56 2 9 1;plead 55;"), 0, 9, 0, 0, 4);
    }

    // promise 15: up to 60 hours
    private void sixtyHours() {
        // judges at both ends of a way of 35 steps: to the nearer one, and all the way back
        OneEared ends = Due.of(WINDING + "left 0 0 0 0;left 56 0 0 0;plead 24;plead 32;plead 39;");
        due.is("17 steps and 35, two words", ends.round(0, 0, 0, 0), 54);
        due.is("17 steps from the other side", ends.round(0, 1, 0, 0), 54);
        due.is("10 steps and 35, two words", ends.round(0, 2, 0, 0), 47);
        // a comb of four rows, a judge at each row's end: 57 steps and 4 words from 16, one less from 17
        OneEared comb = Due.of("size 8 8;wall" + fields(9, 15) + fields(25, 31) + fields(41, 47) + fields(56, 63)
                + ";left 7 1 0 0;left 23 1 0 0;left 39 1 0 0;left 55 1 0 0;plead 16;plead 17;");
        due.is("61 hours", comb.round(0, 0, 0, 0), NONE);
        for (int i = 0; i < 60; i++) {
            due.is("61 hours, hour " + i, comb.round(0, 0, 0, 10 + i), NONE);
        }
        due.is("60 hours", comb.round(0, 1, 0, 0), 60);
        StringBuilder way = new StringBuilder();
        for (int i = 0; i < 60; i++) {
            way.append(comb.round(0, 1, 0, 10 + i));
        }
        due.is("60 hours, words", way.chars().filter(c -> c == '4').count(), 4);
        due.is("60 hours, none waits", way.indexOf("5"), -1);
        due.is("60 hours, the last", way.charAt(59) - '0', 4);
        due.is("60 hours, hour 60", comb.round(0, 1, 0, 70), NONE);
    }

    // ---- HUSH, AREAS, CARVE ----

    private void hushes() {
        // six judges on 12, of reach 0 .. 5, who face north
        StringBuilder text = new StringBuilder("size 8 8;");
        for (int j = 0; j < 6; j++) {
            text.append("left 60 0 ").append(j).append(" 0;");
        }
        OneEared x = Due.of(text.toString());
        // 20 is five north of 60
        for (int n = 1; n <= 6; n++) {
            due.is("hush 20 for " + n, x.hush(0, 20, 0, n), n - 1);
            due.is("hush 4 for " + n, x.hush(0, 4, 0, n), n + 1);
            due.is("hush 60 for " + n, x.hush(0, 60, 0, n), 0);
            due.is("hush 61 for " + n, x.hush(0, 61, 0, n), NONE);
        }
        // 0 is eleven off, ahead and left: reach 5 hears by 6, reach 2 by 9, reach 1 never
        int[] least = {6, 7, 8, 9, NONE, NONE};
        for (int n = 1; n <= 6; n++) {
            due.is("hush 0 for " + n, x.hush(0, 0, 0, n), least[n - 1]);
        }
        due.is("hush for 0", x.hush(0, 60, 0, 0), NONE);
        due.is("hush for 7", x.hush(0, 60, 0, 7), NONE);
        due.is("hush for -1", x.hush(0, 60, 0, -1), NONE);
        due.is("hush at hour 99", x.hush(0, 20, 99, 6), 5);
        due.is("hush without judges", Due.of("").hush(0, 0, 0, 1), NONE);
    }

    private void areas() {
        StringBuilder checkered = new StringBuilder("size 8 8;wall");
        for (int f = 0; f < 64; f++) {
            checkered.append((f + f / 8) % 2 == 0 ? " " + f : "");
        }
        due.is("checkered", Due.of(checkered + ";").areas(0, NONE), 32);
        due.is("open", Due.of("size 8 8;").areas(0, NONE), 1);
        due.is("winding", Due.of(WINDING).areas(0, NONE), 1);
        due.is("two halves", Due.of("size 8 8;wall" + fields(24, 31) + ";").areas(0, NONE), 2);
        due.is("corners touch not", Due.of("size 2 2;wall 1 2;").areas(0, NONE), 2);
        due.is("rows' ends touch not", Due.of("size 2 3;wall 0 3 4;").areas(0, NONE), 3);
        due.is("all walls", Due.of("size 2 2;wall 0 1 2 3;").areas(0, NONE), 0);
        due.is("four corners", Due.of("size 3 3;wall 1 3 4 5 7;").areas(0, NONE), 4);
    }

    private void carves() {
        for (int loud = 0; loud < 10; loud++) {
            due.is("no walls", Due.of("left 0 0 0 0;").areas(0, loud), NONE);
        }
        due.is("one wall", Due.of("wall 24;").areas(0, 9), 24);
        due.is("without judges, the least", Due.of("wall 24 3 7;").areas(0, 0), 3);
        // 0 # 2 3 # 5 6 7, the judge on 3 faces west, his left is south; below all is wall:
        // without 4 nothing more is heard; without 1 by loud 1 no more, by loud 2 field 1
        String row = "size 8 2;wall 1 4" + fields(8, 15) + ";left 3 3 0 0;";
        due.is("by loud 0, all even", Due.of(row).areas(0, 0), 1);
        due.is("by loud 1", Due.of(row).areas(0, 1), 11);
        due.is("by loud 2", Due.of(row).areas(0, 2), 1);
        // at hour 0 he faces east, at hour 1 west is at his right; hour 0 it is
        String turning = "size 8 2;wall 1 3" + fields(8, 15) + ";right 2 1 0 1;";
        due.is("at hour 0", Due.of(turning).areas(0, 1), 3);
        // nobody HEARS from any of 64 fields, one of them a wall till then
        due.is("all 64 are blind", Due.of("size 8 8;wall 5;").areas(0, 0), 5);
        due.is("63 are blind, the least", Due.of("size 8 8;wall 63 62;").areas(0, 9), 62);
        OneEared x = Due.of(row);
        due.is("the wall stays", x.areas(0, 2) == 1 && x.wall(0, 1), true);
        due.is("and so does what is heard", x.echo(0, 0, NONE, 9), 2);
        due.is("a text behind it", Due.tell(x, Due.COURT, ""), 1);
        due.is("has no walls", x.court(1, 2), 0);
        due.is("has no judges", x.court(1, 3), 0);
    }
}
