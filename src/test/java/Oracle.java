import java.util.ArrayDeque;
import java.util.ArrayList;
import java.util.Arrays;
import java.util.HashSet;
import java.util.List;
import java.util.Set;
import java.util.TreeMap;
import java.util.function.ToIntFunction;
import java.util.regex.Matcher;
import java.util.regex.Pattern;

/** The document once more, in the slowest and plainest way, to hold OneEared's answers against. */
final class Oracle {
    static final int NONE = -1;
    private static final int[] DX = {0, 1, 0, -1};
    private static final int[] DY = {-1, 0, 1, 0};

    record Judge(int field, int side, int ear, int reach, int turn) { }

    record Line(String word, int[] numbers) { }

    static final class Court {
        int w = 5;
        int h = 5;
        final Set<Integer> walls = new HashSet<>();
        final List<Judge> judges = new ArrayList<>();
        final List<Integer> pleaders = new ArrayList<>();
        final int[] twins = {NONE, NONE, NONE, NONE};

        boolean there(int f) {
            return f >= 0 && f < w * h;
        }

        boolean free(int f) {
            return there(f) && !walls.contains(f);
        }

        int beside(int f, int side) {
            int x = f % w + DX[side];
            int y = f / w + DY[side];
            if (x < 0 || y < 0 || x >= w || y >= h) {
                return NONE;
            }
            return free(y * w + x) ? y * w + x : NONE;
        }

        int[] distances(int from) {
            int[] d = new int[w * h];
            Arrays.fill(d, NONE);
            ArrayDeque<Integer> queue = new ArrayDeque<>();
            d[from] = 0;
            queue.add(from);
            while (!queue.isEmpty()) {
                int f = queue.poll();
                for (int side = 0; side < 4; side++) {
                    int g = beside(f, side);
                    if (g != NONE && d[g] == NONE) {
                        d[g] = d[f] + 1;
                        queue.add(g);
                    }
                }
            }
            return d;
        }
    }

    /** One way of sitting: whose ears reach how far, on what seat, facing where. */
    record Sitting(int field, int side, int turn, int reach, boolean leftEar, boolean rightEar) {
        int faces(int hour) {
            return (side + hour * turn) % 4;
        }
    }

    static Sitting sitting(Judge j) {
        return new Sitting(j.field, j.side, j.turn, j.reach, j.ear == 0, j.ear == 1);
    }

    static Set<Integer> comes(Court c, Sitting s, int from, int hour) {
        Set<Integer> sides = new HashSet<>();
        int[] d = c.distances(from);
        for (int side = 0; side < 4; side++) {
            int g = c.beside(s.field, side);
            boolean nearer = g != NONE && d[g] != NONE && d[g] == d[s.field] - 1;
            if (from == s.field || nearer) {
                sides.add((side - s.faces(hour) + 4) % 4);
            }
        }
        return sides;
    }

    /** drowned: the side, as the court lies, from which nothing is heard, or NONE. */
    static boolean hears(Court c, Sitting s, int from, int hour, int loud, int drowned) {
        int far = c.distances(from)[s.field];
        if (far == NONE || far > s.reach + loud) {
            return false;
        }
        if (from == s.field) {
            return true;
        }
        Set<Integer> sides = comes(c, s, from, hour);
        if (drowned != NONE) {
            sides.remove((drowned - s.faces(hour) + 4) % 4);
        }
        return sides.contains(0) || s.rightEar && sides.contains(1) || s.leftEar && sides.contains(3);
    }

    record Speech(int hour, int pleader, int word, int loud, List<Integer> from) { }

    /** Where all stand behind each number of deeds, and what was said. */
    static final class Course {
        final List<int[]> places = new ArrayList<>();
        final List<int[]> twins = new ArrayList<>();
        final List<Speech> speeches = new ArrayList<>();
        int stop;
    }

    static Course course(Court c, List<Line> trial) {
        Course course = new Course();
        int[] at = c.pleaders.stream().mapToInt(i -> i).toArray();
        int[] twin = c.twins.clone();
        course.places.add(at.clone());
        course.twins.add(twin.clone());
        for (int k = 0; k < trial.size(); k++) {
            Line deed = trial.get(k);
            if (!deed.word.equals("wait")) {
                int p = deed.numbers[0];
                if (p >= at.length) {
                    break;
                }
                if (deed.word.equals("go")) {
                    int to = c.beside(at[p], deed.numbers[1]);
                    if (to == NONE) {
                        break;
                    }
                    at[p] = to;
                    if (twin[p] != NONE) {
                        int other = c.beside(twin[p], (deed.numbers[1] + 2) % 4);
                        twin[p] = other == NONE ? twin[p] : other;
                    }
                } else {
                    List<Integer> from = new ArrayList<>(List.of(at[p]));
                    if (twin[p] != NONE) {
                        from.add(twin[p]);
                    }
                    course.speeches.add(new Speech(k, p, deed.numbers[1], deed.numbers[2], from));
                }
            }
            course.places.add(at.clone());
            course.twins.add(twin.clone());
            course.stop = k + 1;
        }
        return course;
    }

    static boolean hearsSpeech(Court c, Sitting s, Speech speech, int later, int drowned) {
        return speech.from.stream().anyMatch(f -> hears(c, s, f, speech.hour + later, speech.loud, drowned));
    }

    static int words(Court c, Course course, Sitting s, int n, int later, int[] drowned) {
        int bits = 0;
        for (Speech speech : course.speeches) {
            int storm = drowned == null ? NONE : drowned[speech.hour];
            if (speech.hour < n && hearsSpeech(c, s, speech, later, storm)) {
                bits |= 1 << speech.word;
            }
        }
        return bits;
    }

    static int words(Court c, Course course, Sitting s) {
        return words(c, course, s, course.stop, 0, null);
    }

    // ---- what is told ----

    static final class World {
        byte[] tape = {};
        int fault;
        int place = NONE;
        List<Court> courts = new ArrayList<>();
        List<List<List<Line>>> lists = new ArrayList<>();

        World() {
            for (int i = 0; i < 4; i++) {
                lists.add(new ArrayList<>());
            }
        }

        World copy() {
            World other = new World();
            other.tape = tape.clone();
            other.fault = fault;
            other.place = place;
            other.courts = new ArrayList<>(courts);
            for (int i = 0; i < 4; i++) {
                other.lists.set(i, new ArrayList<>(lists.get(i)));
            }
            return other;
        }
    }

    private World world = new World();
    private final World[] images = new World[3];

    int feed(int... numbers) {
        if (world.tape.length + 20 > 600) {
            return NONE;
        }
        int had = world.tape.length;
        world.tape = Arrays.copyOf(world.tape, had + 20);
        for (int i = 0; i < 20; i++) {
            world.tape[had + i] = (byte) (numbers[i / 4] >> (24 - i % 4 * 8));
        }
        return world.tape.length;
    }

    int end(int n) {
        if (n < 0 || n > world.tape.length) {
            return NONE;
        }
        world.tape = Arrays.copyOf(world.tape, n);
        return n;
    }

    private static final String[][] FORMS = {
        {"size SS", "wall F+", "left FDLT", "right FDLT", "plead F", "twin PF"},
        {"go PD", "say PLL", "wait "},
        {"yes WW", "no WW"},
        {"know JL"}};
    private static final String[][] LIMITED = {
        {"left right", "6", "plead", "4"}, {"go say wait", "30"}, {"yes no", "8"}, {"know", "12"}};

    private static int greatest(char sort) {
        return switch (sort) {
            case 'S' -> 8;
            case 'F' -> 63;
            case 'D', 'T', 'P' -> 3;
            case 'J' -> 5;
            default -> 9;
        };
    }

    record Token(String text, int place) {
        boolean number() {
            return text.matches("[0-9]{1,2}");
        }
    }

    private static List<Token> tokens(byte[] tape) {
        StringBuilder text = new StringBuilder();
        for (byte b : tape) {
            text.append((char) (b & 255));
        }
        List<Token> tokens = new ArrayList<>();
        Matcher m = Pattern.compile("[a-z]+|[0-9]+|[^\n ]", Pattern.DOTALL).matcher(text);
        while (m.find()) {
            tokens.add(new Token(m.group(), m.start()));
        }
        tokens.add(new Token("", tape.length));
        return tokens;
    }

    /** Faults 2 and 3 by place; fault 1 is put under the key -1 with its place. */
    private static List<Line> lines(byte[] tape, int sort, TreeMap<Integer, Integer> faults) {
        List<Token> tokens = tokens(tape);
        List<Line> lines = new ArrayList<>();
        int i = 0;
        while (!tokens.get(i).text.isEmpty()) {
            Token first = tokens.get(i);
            String form = null;
            for (String f : FORMS[sort]) {
                if (f.substring(0, f.indexOf(' ')).equals(first.text)) {
                    form = f.substring(f.indexOf(' ') + 1);
                }
            }
            if (form == null) {
                faults.put(-1, first.place);
                return null;
            }
            String[] limits = LIMITED[sort];
            for (int l = 0; l < limits.length; l += 2) {
                List<String> words = List.of(limits[l].split(" "));
                long had = lines.stream().filter(line -> words.contains(line.word)).count();
                if (words.contains(first.text) && had >= Integer.parseInt(limits[l + 1])) {
                    faults.put(first.place, 3);
                }
            }
            i++;
            List<Integer> numbers = new ArrayList<>();
            boolean many = form.endsWith("+");
            for (int k = 0; many || k < form.length(); k++) {
                Token token = tokens.get(i);
                if (many && k > 0 && !token.number()) {
                    break;
                }
                char kind = form.charAt(many ? 0 : k);
                if (kind == 'W' && token.text.equals("-")) {
                    numbers.add(NONE);
                } else if (token.number()) {
                    int value = Integer.parseInt(token.text);
                    if (value > greatest(kind) || kind == 'S' && value < 2) {
                        faults.put(token.place, 2);
                    }
                    numbers.add(value);
                } else {
                    faults.put(-1, token.place);
                    return null;
                }
                i++;
            }
            if (!tokens.get(i).text.equals(";")) {
                faults.put(-1, tokens.get(i).place);
                return null;
            }
            i++;
            lines.add(new Line(first.text, numbers.stream().mapToInt(n -> n).toArray()));
        }
        return lines;
    }

    /** Null if a field or pleader is missing or somebody is in a wall. */
    private static Court courtOf(List<Line> lines) {
        Court c = new Court();
        Set<Integer> fields = new HashSet<>();
        Set<Integer> pleaders = new HashSet<>();
        for (Line line : lines) {
            int[] n = line.numbers;
            switch (line.word) {
                case "size" -> {
                    c.w = n[0];
                    c.h = n[1];
                }
                case "wall" -> Arrays.stream(n).forEach(f -> {
                    c.walls.add(f);
                    fields.add(f);
                });
                case "plead" -> {
                    c.pleaders.add(n[0]);
                    fields.add(n[0]);
                }
                case "twin" -> {
                    c.twins[n[0]] = n[1];
                    pleaders.add(n[0]);
                    fields.add(n[1]);
                }
                default -> {
                    c.judges.add(new Judge(n[0], n[1], line.word.equals("left") ? 0 : 1, n[2], n[3]));
                    fields.add(n[0]);
                }
            }
        }
        boolean bad = !fields.stream().allMatch(c::there);
        bad |= pleaders.stream().anyMatch(p -> p >= c.pleaders.size());
        bad |= c.judges.stream().anyMatch(j -> c.walls.contains(j.field));
        bad |= c.pleaders.stream().anyMatch(c.walls::contains);
        bad |= Arrays.stream(c.twins).anyMatch(c.walls::contains);
        return bad ? null : c;
    }

    int text(int sort, int at) {
        byte[] tape = world.tape;
        world.tape = new byte[0];
        world.fault = 0;
        world.place = NONE;
        if (sort < 0 || sort > 3) {
            return -2;
        }
        int count = count(sort);
        if (at == NONE ? count >= 2 : at < 0 || at >= count) {
            return -2;
        }
        TreeMap<Integer, Integer> faults = new TreeMap<>();
        List<Line> lines = lines(tape, sort, faults);
        if (lines == null) {
            return blame(1, faults.get(-1));
        }
        if (!faults.isEmpty()) {
            return blame(faults.firstEntry().getValue(), faults.firstKey());
        }
        int number = at == NONE ? count : at;
        if (sort == 0) {
            Court c = courtOf(lines);
            if (c == null) {
                return blame(4, tape.length);
            }
            put(world.courts, number, c);
        } else {
            put(world.lists.get(sort), number, lines);
        }
        return number;
    }

    private int blame(int fault, int place) {
        world.fault = fault;
        world.place = place;
        return NONE;
    }

    private static <T> void put(List<T> list, int number, T thing) {
        if (number == list.size()) {
            list.add(thing);
        } else {
            list.set(number, thing);
        }
    }

    int fault(int what) {
        return what == 0 ? world.fault : what == 1 ? world.place : NONE;
    }

    private Court courtAt(int n) {
        return n >= 0 && n < world.courts.size() ? world.courts.get(n) : null;
    }

    private List<Line> listAt(int sort, int n) {
        return n >= 0 && n < world.lists.get(sort).size() ? world.lists.get(sort).get(n) : null;
    }

    private static boolean in(int n, int least, int most) {
        return n >= least && n <= most;
    }

    private static <T> boolean isOf(int n, List<T> list) {
        return in(n, 0, list.size() - 1);
    }

    // ---- courts ----

    int court(int court, int what) {
        Court c = courtAt(court);
        if (c == null) {
            return NONE;
        }
        return switch (what) {
            case 0 -> c.w;
            case 1 -> c.h;
            case 2 -> c.walls.size();
            case 3 -> c.judges.size();
            case 4 -> c.pleaders.size();
            case 5 -> least(0, 3, hour -> blind(c, hour, 0));
            default -> NONE;
        };
    }

    private static int least(int from, int to, ToIntFunction<Integer> measure) {
        int best = from;
        for (int i = from; i <= to; i++) {
            best = measure.applyAsInt(i) < measure.applyAsInt(best) ? i : best;
        }
        return best;
    }

    static int blind(Court c, int hour, int loud) {
        int count = 0;
        for (int f = 0; f < c.w * c.h; f++) {
            count += c.free(f) && ears(c, f, hour, loud) == 0 ? 1 : 0;
        }
        return count;
    }

    static int ears(Court c, int field, int hour, int loud) {
        int bits = 0;
        for (int j = 0; j < c.judges.size(); j++) {
            bits |= hears(c, sitting(c.judges.get(j)), field, hour, loud, NONE) ? 1 << j : 0;
        }
        return bits;
    }

    boolean wall(int court, int field) {
        Court c = courtAt(court);
        return c != null && c.walls.contains(field);
    }

    int judge(int court, int judge, int what) {
        Court c = courtAt(court);
        if (c == null || !isOf(judge, c.judges)) {
            return NONE;
        }
        Judge j = c.judges.get(judge);
        int[] told = {j.field, j.side, j.ear, j.reach, j.turn};
        if (in(what, 0, 4)) {
            return told[what];
        }
        return in(what, 10, 109) ? (j.side + (what - 10) * j.turn) % 4 : NONE;
    }

    int pleader(int court, int pleader, boolean twin) {
        Court c = courtAt(court);
        if (c == null || !isOf(pleader, c.pleaders)) {
            return -2;
        }
        return twin ? c.twins[pleader] : c.pleaders.get(pleader);
    }

    int far(int court, int a, int b) {
        Court c = courtAt(court);
        return c == null || !c.free(a) || !c.free(b) ? NONE : c.distances(a)[b];
    }

    int comes(int court, int judge, int field, int hour) {
        Court c = courtAt(court);
        if (c == null || !isOf(judge, c.judges) || !c.free(field) || !in(hour, 0, 99)) {
            return NONE;
        }
        Sitting s = sitting(c.judges.get(judge));
        if (c.distances(field)[s.field] == NONE) {
            return NONE;
        }
        return comes(c, s, field, hour).stream().mapToInt(side -> 1 << side).sum();
    }

    int ears(int court, int field, int hour, int loud) {
        Court c = courtAt(court);
        boolean can = c != null && c.free(field) && in(hour, 0, 99) && in(loud, 0, 9);
        return can ? ears(c, field, hour, loud) : NONE;
    }

    int pulpit(int court, int hour, int loud, boolean many) {
        Court c = courtAt(court);
        if (c == null || !in(hour, 0, 99) || !in(loud, 0, 9)) {
            return NONE;
        }
        for (int most = 6; most >= 0; most--) {
            for (int f = 0; f < c.w * c.h; f++) {
                if (c.free(f) && Integer.bitCount(ears(c, f, hour, loud)) == most) {
                    return many ? most : f;
                }
            }
        }
        return NONE;
    }

    int near(int court, int judge, int pleader, int loud) {
        Court c = courtAt(court);
        if (c == null || !isOf(judge, c.judges) || !isOf(pleader, c.pleaders) || !in(loud, 0, 9)) {
            return NONE;
        }
        int[] d = c.distances(c.pleaders.get(pleader));
        int best = NONE;
        for (int f = 0; f < c.w * c.h; f++) {
            if (d[f] != NONE && hears(c, sitting(c.judges.get(judge)), f, 0, loud, NONE)) {
                best = best == NONE ? d[f] : Math.min(best, d[f]);
            }
        }
        return best;
    }

    record Stage(int field, int heard, String way) { }

    int round(int court, int pleader, int loud, int what) {
        Court c = courtAt(court);
        if (c == null || !isOf(pleader, c.pleaders) || !in(loud, 0, 9) || c.judges.isEmpty()) {
            return NONE;
        }
        String way = way(c, c.pleaders.get(pleader), loud);
        if (way == null) {
            return NONE;
        }
        if (what == 0) {
            return way.length();
        }
        return in(what - 10, 0, way.length() - 1) && what >= 10 ? way.charAt(what - 10) - '0' : NONE;
    }

    private static String way(Court c, int start, int loud) {
        int all = (1 << c.judges.size()) - 1;
        int[][] ears = new int[4][c.w * c.h];
        for (int i = 0; i < 4 * c.w * c.h; i++) {
            int f = i / 4;
            ears[i % 4][f] = c.free(f) ? ears(c, f, i % 4, loud) : 0;
        }
        // the stages of one hour stand in the order of their ways, so the first to come is kept
        List<Stage> stages = List.of(new Stage(start, 0, ""));
        for (int hour = 0; hour < 60; hour++) {
            Set<Integer> seen = new HashSet<>();
            List<Stage> next = new ArrayList<>();
            for (Stage stage : stages) {
                for (int act = 0; act < 6; act++) {
                    int to = act < 4 ? c.beside(stage.field, act) : stage.field;
                    int heard = stage.heard | (act == 4 ? ears[hour % 4][stage.field] : 0);
                    if (to != NONE && heard == all) {
                        return stage.way + act;
                    }
                    if (to != NONE && seen.add(to * 64 + heard)) {
                        next.add(new Stage(to, heard, stage.way + act));
                    }
                }
            }
            stages = next;
        }
        return null;
    }

    int echo(int court, int a, int b, int loud) {
        Court c = courtAt(court);
        if (c == null || !in(loud, 0, 9)) {
            return NONE;
        }
        if (a == NONE && b == NONE) {
            return blind(c, 0, loud);
        }
        if (!isOf(a, c.judges) || b != NONE && !isOf(b, c.judges) || a == b) {
            return NONE;
        }
        int both = 1 << a | (b == NONE ? 0 : 1 << b);
        int count = 0;
        for (int f = 0; f < c.w * c.h; f++) {
            count += c.free(f) && (ears(c, f, 0, loud) & both) == both ? 1 : 0;
        }
        return count;
    }

    int hush(int court, int field, int hour, int n) {
        Court c = courtAt(court);
        if (c == null || !c.free(field) || !in(hour, 0, 99) || !in(n, 1, 6)) {
            return NONE;
        }
        for (int loud = 0; loud < 10; loud++) {
            if (Integer.bitCount(ears(c, field, hour, loud)) >= n) {
                return loud;
            }
        }
        return NONE;
    }

    int areas(int court, int loud) {
        Court c = courtAt(court);
        if (c == null || !in(loud, -1, 9)) {
            return NONE;
        }
        if (loud == NONE) {
            Set<String> parts = new HashSet<>();
            for (int f = 0; f < c.w * c.h; f++) {
                if (c.free(f)) {
                    StringBuilder part = new StringBuilder();
                    int[] d = c.distances(f);
                    for (int g = 0; g < d.length; g++) {
                        part.append(d[g] == NONE ? '.' : '#');
                    }
                    parts.add(part.toString());
                }
            }
            return parts.size();
        }
        int best = NONE;
        int least = 99;
        for (int f = 0; f < 64; f++) {
            if (c.walls.remove(f)) {
                int blind = blind(c, 0, loud);
                c.walls.add(f);
                if (blind < least) {
                    least = blind;
                    best = f;
                }
            }
        }
        return best;
    }

    // ---- trials ----

    int deed(int trial, int k, int what) {
        List<Line> lines = listAt(1, trial);
        if (lines != null && isOf(k, lines) && what == 0) {
            return List.of("go", "say", "wait").indexOf(lines.get(k).word);
        }
        return cell(lines, k, what, 3);
    }

    private static int cell(List<Line> lines, int k, int what, int numbers) {
        if (lines == null) {
            return -2;
        }
        if (k == NONE && what == 0) {
            return lines.size();
        }
        if (!isOf(k, lines) || !in(what, 1, numbers)) {
            return -2;
        }
        int[] told = lines.get(k).numbers;
        return what <= told.length ? told[what - 1] : NONE;
    }

    int stop(int court, int trial) {
        Court c = courtAt(court);
        List<Line> lines = listAt(1, trial);
        return c == null || lines == null ? NONE : course(c, lines).stop;
    }

    int stands(int court, int trial, int n, int pleader, boolean twin) {
        Court c = courtAt(court);
        List<Line> lines = listAt(1, trial);
        if (c == null || lines == null || !isOf(pleader, c.pleaders)) {
            return -2;
        }
        Course course = course(c, lines);
        if (!in(n, 0, course.stop)) {
            return -2;
        }
        return (twin ? course.twins : course.places).get(n)[pleader];
    }

    int knows(int court, int trial, int n, int judge) {
        Court c = courtAt(court);
        List<Line> lines = listAt(1, trial);
        if (c == null || lines == null) {
            return NONE;
        }
        Course course = course(c, lines);
        if (!in(n, 0, course.stop)) {
            return NONE;
        }
        int every = c.judges.isEmpty() ? 0 : 1023;
        int any = 0;
        for (Judge j : c.judges) {
            int bits = words(c, course, sitting(j), n, 0, null);
            every &= bits;
            any |= bits;
        }
        if (judge == NONE) {
            return every;
        }
        if (judge == -2) {
            int said = 0;
            for (Speech speech : course.speeches) {
                said |= speech.hour < n ? 1 << speech.word : 0;
            }
            return said & ~any;
        }
        return isOf(judge, c.judges) ? words(c, course, sitting(c.judges.get(judge)), n, 0, null) : NONE;
    }

    static int hearers(Court c, Speech speech) {
        int bits = 0;
        for (int j = 0; j < c.judges.size(); j++) {
            bits |= hearsSpeech(c, sitting(c.judges.get(j)), speech, 0, NONE) ? 1 << j : 0;
        }
        return bits;
    }

    int heard(int court, int trial, int k) {
        Court c = courtAt(court);
        List<Line> lines = listAt(1, trial);
        if (c != null && lines != null) {
            for (Speech speech : course(c, lines).speeches) {
                if (speech.hour == k) {
                    return hearers(c, speech);
                }
            }
        }
        return NONE;
    }

    int mouth(int court, int trial, boolean many) {
        Court c = courtAt(court);
        List<Line> lines = listAt(1, trial);
        if (c == null || lines == null) {
            return NONE;
        }
        int[] sums = new int[4];
        for (Speech speech : course(c, lines).speeches) {
            sums[speech.pleader] += Integer.bitCount(hearers(c, speech));
        }
        int best = least(0, 3, p -> -sums[p]);
        if (sums[best] == 0) {
            return NONE;
        }
        return many ? sums[best] : best;
    }

    // ---- laws ----

    int rule(int law, int k, int what) {
        List<Line> lines = listAt(2, law);
        if (lines != null && isOf(k, lines) && what == 0) {
            return lines.get(k).word.equals("yes") ? 1 : 0;
        }
        return cell(lines, k, what, 2);
    }

    static int ruleOf(List<Line> law, int words) {
        for (int k = 0; k < law.size(); k++) {
            int[] n = law.get(k).numbers;
            boolean first = n[0] == NONE || (words & 1 << n[0]) != 0;
            boolean second = n[1] == NONE || (words & 1 << n[1]) == 0;
            if (first && second) {
                return k;
            }
        }
        return NONE;
    }

    static int vote(List<Line> law, int words) {
        int k = ruleOf(law, words);
        return k == NONE ? NONE : law.get(k).word.equals("yes") ? 1 : 0;
    }

    static int verdict(int[] votes) {
        long yes = Arrays.stream(votes).filter(v -> v == 1).count();
        long no = Arrays.stream(votes).filter(v -> v == 0).count();
        return yes > no ? 1 : no > yes ? 0 : NONE;
    }

    static int[] votes(Court c, Course course, List<Line> law, int further) {
        return c.judges.stream().mapToInt(j -> vote(law, words(c, course, sitting(j)) | further)).toArray();
    }

    int votes(int court, int trial, int law, int judge) {
        Court c = courtAt(court);
        List<Line> lines = listAt(1, trial);
        List<Line> rules = listAt(2, law);
        if (c == null || lines == null || rules == null) {
            return -2;
        }
        int[] votes = votes(c, course(c, lines), rules, 0);
        if (judge == NONE) {
            return verdict(votes);
        }
        return isOf(judge, c.judges) ? votes[judge] : -2;
    }

    int sway(int court, int trial, int law, int what) {
        Court c = courtAt(court);
        List<Line> lines = listAt(1, trial);
        List<Line> rules = listAt(2, law);
        if (c == null || lines == null || rules == null || !in(what, 0, 1)) {
            return NONE;
        }
        Course course = course(c, lines);
        int[] votes = votes(c, course, rules, 0);
        int bits = 0;
        for (int j = 0; j < votes.length; j++) {
            int[] others = votes.clone();
            if (what == 0) {
                others[j] = others[j] == NONE ? NONE : 1 - others[j];
            } else {
                Judge o = c.judges.get(j);
                Judge turned = new Judge(o.field, o.side, 1 - o.ear, o.reach, o.turn);
                others[j] = vote(rules, words(c, course, sitting(turned)));
            }
            bits |= verdict(others) != verdict(votes) ? 1 << j : 0;
        }
        return bits;
    }

    int idle(int court, int trial, int law) {
        Court c = courtAt(court);
        List<Line> lines = listAt(1, trial);
        List<Line> rules = listAt(2, law);
        if (c == null || lines == null || rules == null) {
            return NONE;
        }
        Set<Integer> used = new HashSet<>();
        for (Judge j : c.judges) {
            used.add(ruleOf(rules, words(c, course(c, lines), sitting(j))));
        }
        int bits = 0;
        for (int k = 0; k < rules.size(); k++) {
            bits |= used.contains(k) ? 0 : 1 << k;
        }
        return bits;
    }

    int persuade(int court, int trial, int law, int verdict) {
        Court c = courtAt(court);
        List<Line> lines = listAt(1, trial);
        List<Line> rules = listAt(2, law);
        if (c == null || lines == null || rules == null || !in(verdict, 0, 1)) {
            return NONE;
        }
        Course course = course(c, lines);
        int[] known = c.judges.stream().mapToInt(j -> words(c, course, sitting(j))).toArray();
        for (int size = 0; size <= 10; size++) {
            for (int set = 0; set < 1024; set++) {
                int further = set;
                int[] votes = Arrays.stream(known).map(k -> vote(rules, k | further)).toArray();
                if (Integer.bitCount(set) == size && verdict(votes) == verdict) {
                    return set;
                }
            }
        }
        return NONE;
    }

    // ---- ears, seats, benches ----

    private static int size(int words) {
        return Integer.bitCount(words);
    }

    static int sold(Court c, Course course, Judge j, boolean third) {
        Sitting other = new Sitting(j.field, j.side, j.turn, j.reach, third, third);
        int change = size(words(c, course, sitting(j))) - size(words(c, course, other));
        return third ? -change : change;
    }

    int sold(int court, int trial, int judge, boolean third) {
        Court c = courtAt(court);
        List<Line> lines = listAt(1, trial);
        if (c == null || lines == null || c.judges.isEmpty()) {
            return NONE;
        }
        Course course = course(c, lines);
        if (judge == NONE) {
            return least(0, c.judges.size() - 1, j -> -sold(c, course, c.judges.get(j), false));
        }
        return isOf(judge, c.judges) ? sold(c, course, c.judges.get(judge), third) : NONE;
    }

    private int bestSum;
    private int[] bestSeats;

    int seats(int court, int trial, int j) {
        Court c = courtAt(court);
        List<Line> lines = listAt(1, trial);
        if (c == null || lines == null || j != NONE && !isOf(j, c.judges)) {
            return NONE;
        }
        Course course = course(c, lines);
        int n = c.judges.size();
        int[][] worth = new int[n][n];
        for (int i = 0; i < n; i++) {
            for (int s = 0; s < n; s++) {
                Judge who = c.judges.get(i);
                Judge where = c.judges.get(s);
                worth[i][s] = size(words(c, course, new Sitting(where.field, where.side, where.turn, who.reach, who.ear == 0, who.ear == 1)));
            }
        }
        bestSum = NONE;
        tryAll(worth, new int[n], 0, 0);
        return j == NONE ? bestSum : bestSeats[j];
    }

    private void tryAll(int[][] worth, int[] seats, int j, int sum) {
        if (j == seats.length) {
            if (sum > bestSum) {
                bestSum = sum;
                bestSeats = seats.clone();
            }
            return;
        }
        for (int s = 0; s < seats.length; s++) {
            int seat = s;
            if (Arrays.stream(seats, 0, j).noneMatch(taken -> taken == seat)) {
                seats[j] = s;
                tryAll(worth, seats, j + 1, sum + worth[j][s]);
            }
        }
    }

    int bench(int court, int trial, int judge) {
        Court c = courtAt(court);
        List<Line> lines = listAt(1, trial);
        if (c == null || lines == null || judge != NONE && !isOf(judge, c.judges)) {
            return NONE;
        }
        Course course = course(c, lines);
        if (judge == NONE) {
            return least(0, 3, later -> -c.judges.stream()
                    .mapToInt(j -> size(words(c, course, sitting(j), course.stop, later, null))).sum());
        }
        Judge j = c.judges.get(judge);
        return least(0, 3, side -> -size(words(c, course, sitting(new Judge(j.field, side, j.ear, j.reach, j.turn)))));
    }

    int drawn(int court, int trial, int seed, int k, int what) {
        Court c = courtAt(court);
        List<Line> lines = listAt(1, trial);
        if (c == null || lines == null || !in(k, 0, 100)) {
            return NONE;
        }
        Course course = course(c, lines);
        int[] drowned = new int[30];
        Arrays.fill(drowned, NONE);
        int hours = 0;
        long x = seed & 0xffffffffL;
        for (int i = 0; i < course.stop; i++) {
            x = (x * 1103515245L + 12345L) & 0xffffffffL;
            if (x / 65536 % 100 < k) {
                x = (x * 1103515245L + 12345L) & 0xffffffffL;
                drowned[i] = (int) (x / 65536 % 4);
                hours++;
            }
        }
        if (what == 1) {
            return hours;
        }
        int[] known = c.judges.stream().mapToInt(j -> words(c, course, sitting(j), course.stop, 0, drowned)).toArray();
        if (what == 0) {
            return Arrays.stream(known).map(Oracle::size).sum();
        }
        return what >= 10 && isOf(what - 10, c.judges) ? known[what - 10] : NONE;
    }

    int rift(int court, int trial, int what) {
        Court c = courtAt(court);
        List<Line> lines = listAt(1, trial);
        if (c == null || lines == null || c.judges.size() < 2 || !in(what, 0, 2)) {
            return NONE;
        }
        Course course = course(c, lines);
        int[] known = c.judges.stream().mapToInt(j -> words(c, course, sitting(j))).toArray();
        int[] best = {0, 1, NONE};
        for (int a = 0; a < known.length; a++) {
            for (int b = a + 1; b < known.length; b++) {
                int only = size(known[a] & ~known[b]) + size(known[b] & ~known[a]);
                if (only > best[2]) {
                    best = new int[] {a, b, only};
                }
            }
        }
        return best[what];
    }

    // ---- rolls ----

    int claim(int roll, int k, int what) {
        List<Line> lines = listAt(3, roll);
        if (lines != null && k != NONE && !in(what, 0, 1)) {
            return -2;
        }
        return cell(lines, k, k == NONE ? what : what + 1, 2);
    }

    static boolean sees(Court c, Judge j, int hour, int field) {
        int at = j.field;
        while (true) {
            at = c.beside(at, (j.side + hour * j.turn) % 4);
            if (at == NONE) {
                return false;
            }
            if (at == field) {
                return true;
            }
        }
    }

    int lips(int court, int trial, int roll, int what) {
        Court c = courtAt(court);
        List<Line> lines = listAt(1, trial);
        List<Line> claims = listAt(3, roll);
        if (c == null || lines == null || claims == null || !in(what, 0, 3)) {
            return -2;
        }
        Course course = course(c, lines);
        int[] bits = new int[3];
        int[] read = new int[6];
        for (int k = 0; k < claims.size(); k++) {
            int judge = claims.get(k).numbers[0];
            int word = claims.get(k).numbers[1];
            boolean there = isOf(judge, c.judges);
            if (there && (words(c, course, sitting(c.judges.get(judge))) & 1 << word) != 0) {
                continue;
            }
            bits[0] |= 1 << k;
            boolean seen = there && course.speeches.stream().anyMatch(s -> s.word == word
                    && s.from.stream().anyMatch(f -> sees(c, c.judges.get(judge), s.hour, f)));
            bits[seen ? 1 : 2] |= 1 << k;
            read[judge] += seen ? 1 : 0;
        }
        int reader = least(0, 5, j -> -read[j]);
        return what < 3 ? bits[what] : read[reader] > 0 ? reader : NONE;
    }

    // ---- all ----

    int count(int sort) {
        return sort == 0 ? world.courts.size() : in(sort, 1, 3) ? world.lists.get(sort).size() : -2;
    }

    boolean image(int k) {
        if (!in(k, 0, 2)) {
            return false;
        }
        images[k] = world.copy();
        return true;
    }

    boolean again(int k) {
        if (!in(k, 0, 2) || images[k] == null) {
            return false;
        }
        world = images[k].copy();
        return true;
    }
}
