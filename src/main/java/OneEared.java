import java.util.Arrays;

/** Courts whose judges are deaf in one ear by law, and the trials, laws and rolls told of them. */
public final class OneEared {
    public static final int NONE = -1;

    private static final int NO_SUCH = -2;

    private static final int COURT = 0;
    private static final int TRIAL = 1;
    private static final int LAW = 2;
    private static final int ROLL = 3;
    private static final int SORTS = 4;
    private static final int EACH = 2;

    private static final int TAPE = 600;
    private static final int FIELDS = 64;
    private static final int LAST_FIELD = 63;
    private static final int JUDGES = 6;
    private static final int PLEADERS = 4;
    private static final int DEEDS = 30;
    private static final int RULES = 8;
    private static final int CLAIMS = 12;
    private static final int WORD_SETS = 1024;
    private static final int IMAGES = 3;

    private static final int LAST_HOUR = 99;
    private static final int LOUDEST = 9;
    private static final int HOURS_A_TURN = 4;
    private static final int SIDES = 4;
    private static final int ALL_SIDES = 15;
    private static final int AHEAD = 1;
    private static final int TO_RIGHT = 2;
    private static final int TO_LEFT = 8;
    private static final int LEFT_EAR = 0;
    private static final int RIGHT_EAR = 1;

    // what a JUDGE's row holds
    private static final int SEAT = 0;
    private static final int SIDE = 1;
    private static final int EAR = 2;
    private static final int REACH = 3;
    private static final int TURN = 4;
    private static final int JUDGE_ROW = 5;

    // what a DEED's row holds
    private static final int KIND = 0;
    private static final int WHO = 1;
    private static final int WHAT = 2;
    private static final int LOUD = 3;
    private static final int GO = 0;
    private static final int SAY = 1;

    // what a RULE's row holds, and a CLAIM's
    private static final int YES = 0;
    private static final int MUST = 1;
    private static final int MUST_NOT = 2;
    private static final int CLAIMER = 0;
    private static final int CLAIMED = 1;

    // the FAULTS
    private static final int BROKEN_OFF = 1;
    private static final int NO_SUCH_NUMBER = 2;
    private static final int ONE_TOO_MANY = 3;
    private static final int MISSING = 4;

    private static final int ROUND_HOURS = 60;
    // asked as 10 + something
    private static final int FROM = 10;

    private final Told told = new Told();
    private final Told[] images = new Told[IMAGES];
    private final Reader reader = new Reader();
    private final Hall hall = new Hall();
    private final Seating seating = new Seating();
    // made at its first use, for it is large and most objects never need it
    private Walk walk;

    public OneEared() {
    }

    public int feed(int a, int b, int c, int d, int e) {
        if (told.length + 20 > TAPE) {
            return NONE;
        }
        told.append(a);
        told.append(b);
        told.append(c);
        told.append(d);
        told.append(e);
        return told.length;
    }

    public int end(int n) {
        if (n < 0 || n > told.length) {
            return NONE;
        }
        told.length = n;
        return n;
    }

    public int text(int sort, int at) {
        int length = told.length;
        told.length = 0;
        told.fault = 0;
        told.place = NONE;
        if (sort < 0 || sort >= SORTS) {
            return NO_SUCH;
        }
        int number = at == NONE ? told.counts[sort] : at;
        int bound = at == NONE ? EACH : told.counts[sort];
        if (number < 0 || number >= bound) {
            return NO_SUCH;
        }
        reader.read(told.tape, length, sort);
        if (reader.fault != 0) {
            told.fault = reader.fault;
            told.place = reader.place;
            return NONE;
        }
        keepDraft(sort, number);
        return number;
    }

    private void keepDraft(int sort, int number) {
        if (sort == COURT) {
            Court old = told.courts[number];
            told.courts[number] = reader.court;
            reader.court = old;
        } else {
            int slot = Told.slotOf(sort, number);
            Listing old = told.lists[slot];
            told.lists[slot] = reader.lists[sort];
            reader.lists[sort] = old;
        }
        if (number == told.counts[sort]) {
            told.counts[sort]++;
        }
    }

    public int fault(int what) {
        if (what == 0) {
            return told.fault;
        }
        return what == 1 ? told.place : NONE;
    }

    private Court courtAt(int court) {
        if (court < 0 || court >= told.counts[COURT]) {
            return null;
        }
        told.courts[court].lay();
        return told.courts[court];
    }

    private Listing listAt(int sort, int number) {
        boolean there = number >= 0 && number < told.counts[sort];
        return there ? told.lists[Told.slotOf(sort, number)] : null;
    }

    /** The hall in which the TRIAL was played on the COURT up to STOP; null if either is not there. */
    private Hall hallOf(int court, int trial) {
        Court place = courtAt(court);
        Listing deeds = listAt(TRIAL, trial);
        if (place == null || deeds == null) {
            return null;
        }
        hall.play(place, deeds, DEEDS);
        return hall;
    }

    private static boolean isHour(int hour) {
        return hour >= 0 && hour <= LAST_HOUR;
    }

    private static boolean isLoud(int loud) {
        return loud >= 0 && loud <= LOUDEST;
    }

    private static boolean has(long set, int bit) {
        return (set >>> bit & 1L) != 0;
    }

    public int court(int court, int what) {
        Court c = courtAt(court);
        if (c == null) {
            return NONE;
        }
        switch (what) {
            case 0:
                return c.w;
            case 1:
                return c.h;
            case 2:
                return Long.bitCount(c.walls);
            case 3:
                return c.judges;
            case 4:
                return c.pleaders;
            case 5:
                return c.quarter();
            default:
                return NONE;
        }
    }

    public boolean wall(int court, int field) {
        Court c = courtAt(court);
        return c != null && field >= 0 && field < FIELDS && has(c.walls, field);
    }

    public int judge(int court, int judge, int what) {
        Court c = courtAt(court);
        if (c == null || !c.hasJudge(judge)) {
            return NONE;
        }
        if (what >= 0 && what < JUDGE_ROW) {
            return c.of(judge, what);
        }
        if (what >= FROM && what <= FROM + LAST_HOUR) {
            return c.faces(judge, what - FROM);
        }
        return NONE;
    }

    public int pleader(int court, int pleader, boolean twin) {
        Court c = courtAt(court);
        if (c == null || !c.hasPleader(pleader)) {
            return NO_SUCH;
        }
        return twin ? c.twin[pleader] : c.stand[pleader];
    }

    public int far(int court, int a, int b) {
        Court c = courtAt(court);
        if (c == null || !c.isOpen(a) || !c.isOpen(b)) {
            return NONE;
        }
        return c.steps(a, 1L << b);
    }

    public int comes(int court, int judge, int field, int hour) {
        Court c = courtAt(court);
        if (c == null || !c.hasJudge(judge) || !c.isOpen(field) || !isHour(hour)) {
            return NONE;
        }
        if (field == c.of(judge, SEAT)) {
            return ALL_SIDES;
        }
        int sides = c.sidesFrom(judge, field);
        return sides == 0 ? NONE : Court.turned(sides, SIDES - c.faces(judge, hour));
    }

    public int ears(int court, int field, int hour, int loud) {
        Court c = courtAt(court);
        if (c == null || !c.isOpen(field) || !isHour(hour) || !isLoud(loud)) {
            return NONE;
        }
        return c.earsAt(field, hour, loud);
    }

    public int pulpit(int court, int hour, int loud, boolean many) {
        Court c = courtAt(court);
        if (c == null || !isHour(hour) || !isLoud(loud)) {
            return NONE;
        }
        int best = NONE;
        int most = NONE;
        for (int field = 0; field < FIELDS; field++) {
            if (c.isOpen(field)) {
                int ears = Integer.bitCount(c.earsAt(field, hour, loud));
                if (ears > most) {
                    most = ears;
                    best = field;
                }
            }
        }
        return many ? most : best;
    }

    public int near(int court, int judge, int pleader, int loud) {
        Court c = courtAt(court);
        if (c == null || !c.hasJudge(judge) || !c.hasPleader(pleader) || !isLoud(loud)) {
            return NONE;
        }
        return c.steps(c.stand[pleader], c.audible(judge, 0, loud));
    }

    public int round(int court, int pleader, int loud, int what) {
        Court c = courtAt(court);
        if (c == null || !c.hasPleader(pleader) || !isLoud(loud) || c.judges == 0) {
            return NONE;
        }
        if (what != 0 && (what < FROM || what >= FROM + ROUND_HOURS)) {
            return NONE;
        }
        if (walk == null) {
            walk = new Walk();
        }
        int hours = walk.search(c, c.stand[pleader], loud);
        if (what == 0 || hours == NONE) {
            return hours;
        }
        int hour = what - FROM;
        return hour < hours ? walk.actAt(hour) : NONE;
    }

    public int echo(int court, int a, int b, int loud) {
        Court c = courtAt(court);
        if (c == null || !isLoud(loud)) {
            return NONE;
        }
        if (a == NONE && b == NONE) {
            return c.blind(0, loud);
        }
        if (!c.hasJudge(a)) {
            return NONE;
        }
        long both = c.audible(a, 0, loud);
        if (b == NONE) {
            return Long.bitCount(both);
        }
        if (!c.hasJudge(b) || a == b) {
            return NONE;
        }
        return Long.bitCount(both & c.audible(b, 0, loud));
    }

    public int deed(int trial, int k, int what) {
        return cellOf(listAt(TRIAL, trial), k, what);
    }

    private static int cellOf(Listing list, int k, int what) {
        if (list == null) {
            return NO_SUCH;
        }
        if (k == NONE) {
            return what == 0 ? list.count : NO_SUCH;
        }
        if (k < 0 || k >= list.count || what < 0 || what >= list.width) {
            return NO_SUCH;
        }
        return list.at(k, what);
    }

    public int stop(int court, int trial) {
        Hall played = hallOf(court, trial);
        return played == null ? NONE : played.stop;
    }

    public int stands(int court, int trial, int n, int pleader, boolean twin) {
        Court c = courtAt(court);
        Listing deeds = listAt(TRIAL, trial);
        if (c == null || deeds == null || !c.hasPleader(pleader) || n < 0) {
            return NO_SUCH;
        }
        hall.play(c, deeds, n);
        if (hall.stop < n) {
            return NO_SUCH;
        }
        return twin ? hall.twins[pleader] : hall.places[pleader];
    }

    public int knows(int court, int trial, int n, int judge) {
        Hall played = hallOf(court, trial);
        if (played == null || n < 0 || n > played.stop) {
            return NONE;
        }
        if (judge == NONE) {
            return played.common(n);
        }
        if (judge == NO_SUCH) {
            return played.lost(n);
        }
        return played.court.hasJudge(judge) ? played.learned(judge, n) : NONE;
    }

    public int heard(int court, int trial, int k) {
        Hall played = hallOf(court, trial);
        if (played == null || k < 0 || k >= played.stop || !played.isSaid(k)) {
            return NONE;
        }
        return played.hearers(k);
    }

    public int rule(int law, int k, int what) {
        return cellOf(listAt(LAW, law), k, what);
    }

    public int votes(int court, int trial, int law, int judge) {
        Listing rules = listAt(LAW, law);
        Hall played = hallOf(court, trial);
        if (rules == null || played == null) {
            return NO_SUCH;
        }
        played.learnAll();
        if (judge == NONE) {
            return verdictOf(tally(played, rules, 0));
        }
        return played.court.hasJudge(judge) ? voteBy(rules, played.known[judge]) : NO_SUCH;
    }

    /** The first RULE that fits who KNOWS these WORDS; NONE if there is none. */
    private static int ruleFor(Listing rules, int words) {
        for (int k = 0; k < rules.count; k++) {
            int must = rules.at(k, MUST);
            int mustNot = rules.at(k, MUST_NOT);
            if ((must == NONE || has(words, must)) && (mustNot == NONE || !has(words, mustNot))) {
                return k;
            }
        }
        return NONE;
    }

    private static int voteBy(Listing rules, int words) {
        int rule = ruleFor(rules, words);
        return rule == NONE ? NONE : rules.at(rule, YES);
    }

    /** What a vote adds to the count of yes less no. */
    private static int weight(int vote) {
        if (vote == NONE) {
            return 0;
        }
        return vote == 1 ? 1 : -1;
    }

    /** How many more yes than no there are, if all JUDGES KNOW further WORDS, too. */
    private static int tally(Hall played, Listing rules, int further) {
        int sum = 0;
        for (int j = 0; j < played.court.judges; j++) {
            sum += weight(voteBy(rules, played.known[j] | further));
        }
        return sum;
    }

    private static int verdictOf(int tally) {
        if (tally == 0) {
            return NONE;
        }
        return tally > 0 ? 1 : 0;
    }

    public int sway(int court, int trial, int law, int what) {
        Listing rules = listAt(LAW, law);
        Hall played = hallOf(court, trial);
        if (rules == null || played == null || what < 0 || what > 1) {
            return NONE;
        }
        played.learnAll();
        int sum = tally(played, rules, 0);
        int bits = 0;
        for (int j = 0; j < played.court.judges; j++) {
            int own = weight(voteBy(rules, played.known[j]));
            int other = what == 0 ? -own : weight(voteBy(rules, played.learnedByOtherEar(j)));
            if (verdictOf(sum - own + other) != verdictOf(sum)) {
                bits |= 1 << j;
            }
        }
        return bits;
    }

    public int sold(int court, int trial, int judge, boolean third) {
        Hall played = hallOf(court, trial);
        if (played == null || played.court.judges == 0) {
            return NONE;
        }
        played.learnAll();
        if (judge == NONE) {
            return played.dearest();
        }
        if (!played.court.hasJudge(judge)) {
            return NONE;
        }
        return third ? played.gainOfThird(judge) : played.lossOfSold(judge);
    }

    public int seats(int court, int trial, int j) {
        Hall played = hallOf(court, trial);
        if (played == null || j != NONE && !played.court.hasJudge(j)) {
            return NONE;
        }
        seating.settle(played);
        return j == NONE ? seating.best[0] : seating.seatOf(j);
    }

    public int claim(int roll, int k, int what) {
        return cellOf(listAt(ROLL, roll), k, what);
    }

    public int lips(int court, int trial, int roll, int what) {
        Listing claims = listAt(ROLL, roll);
        Hall played = hallOf(court, trial);
        if (claims == null || played == null || what < 0 || what > 3) {
            return NO_SUCH;
        }
        played.learnAll();
        int liar = 0;
        int lips = 0;
        for (int k = 0; k < claims.count; k++) {
            int judge = claims.at(k, CLAIMER);
            int word = claims.at(k, CLAIMED);
            boolean there = played.court.hasJudge(judge);
            if (!there || !has(played.known[judge], word)) {
                liar |= 1 << k;
                if (there && has(played.wordsSeen(judge), word)) {
                    lips |= 1 << k;
                }
            }
        }
        switch (what) {
            case 0:
                return liar;
            case 1:
                return lips;
            case 2:
                return liar & ~lips;
            default:
                return readerOf(claims, lips);
        }
    }

    /** The JUDGE with the most of these CLAIMS; NONE if there are no CLAIMS. */
    private static int readerOf(Listing claims, int lips) {
        int best = NONE;
        int most = 0;
        for (int j = 0; j < JUDGES; j++) {
            int his = 0;
            for (int k = 0; k < claims.count; k++) {
                if (has(lips, k) && claims.at(k, CLAIMER) == j) {
                    his++;
                }
            }
            if (his > most) {
                most = his;
                best = j;
            }
        }
        return best;
    }

    public int drawn(int court, int trial, int seed, int k, int what) {
        Hall played = hallOf(court, trial);
        if (played == null || k < 0 || k > 100) {
            return NONE;
        }
        int judge = what - FROM;
        if (what != 0 && what != 1 && (what < FROM || !played.court.hasJudge(judge))) {
            return NONE;
        }
        int storms = played.thunder(seed, k);
        if (what == 1) {
            return storms;
        }
        return what == 0 ? played.allLearned(0) : played.learned(judge, played.stop);
    }

    public int hush(int court, int field, int hour, int n) {
        Court c = courtAt(court);
        if (c == null || !c.isOpen(field) || !isHour(hour) || n < 1 || n > JUDGES) {
            return NONE;
        }
        for (int loud = 0; loud <= LOUDEST; loud++) {
            if (Integer.bitCount(c.earsAt(field, hour, loud)) >= n) {
                return loud;
            }
        }
        return NONE;
    }

    public int bench(int court, int trial, int judge) {
        Hall played = hallOf(court, trial);
        if (played == null || judge != NONE && !played.court.hasJudge(judge)) {
            return NONE;
        }
        int best = 0;
        int most = NONE;
        for (int turn = 0; turn < SIDES; turn++) {
            int known = judge == NONE ? played.allLearned(turn) : played.knownFacing(judge, turn);
            if (known > most) {
                most = known;
                best = turn;
            }
        }
        return best;
    }

    public int idle(int court, int trial, int law) {
        Listing rules = listAt(LAW, law);
        Hall played = hallOf(court, trial);
        if (rules == null || played == null) {
            return NONE;
        }
        played.learnAll();
        int bits = (1 << rules.count) - 1;
        for (int j = 0; j < played.court.judges; j++) {
            int rule = ruleFor(rules, played.known[j]);
            if (rule != NONE) {
                bits &= ~(1 << rule);
            }
        }
        return bits;
    }

    public int persuade(int court, int trial, int law, int verdict) {
        Listing rules = listAt(LAW, law);
        Hall played = hallOf(court, trial);
        if (rules == null || played == null || verdict < 0 || verdict > 1) {
            return NONE;
        }
        played.learnAll();
        int named = namedIn(rules);
        int best = NONE;
        int fewest = Integer.bitCount(named) + 1;
        for (int words = 0; words < WORD_SETS; words++) {
            // a WORD that no RULE names changes no vote, so it is never among the fewest
            if ((words & ~named) == 0 && Integer.bitCount(words) < fewest
                    && verdictOf(tally(played, rules, words)) == verdict) {
                best = words;
                fewest = Integer.bitCount(words);
            }
        }
        return best;
    }

    private static int namedIn(Listing rules) {
        int words = 0;
        for (int k = 0; k < rules.count; k++) {
            int must = rules.at(k, MUST);
            int mustNot = rules.at(k, MUST_NOT);
            words |= must == NONE ? 0 : 1 << must;
            words |= mustNot == NONE ? 0 : 1 << mustNot;
        }
        return words;
    }

    public int areas(int court, int loud) {
        Court c = courtAt(court);
        if (c == null || loud != NONE && !isLoud(loud)) {
            return NONE;
        }
        return loud == NONE ? c.parts() : carve(c, loud);
    }

    private int carve(Court c, int loud) {
        int best = NONE;
        int least = FIELDS + 1;
        for (int field = 0; field < FIELDS; field++) {
            if (has(c.walls, field)) {
                // the reader's draft is free between two texts
                Court carved = reader.court;
                carved.copyFrom(c);
                carved.walls &= ~(1L << field);
                carved.measure();
                carved.lay();
                int blind = carved.blind(0, loud);
                if (blind < least) {
                    least = blind;
                    best = field;
                }
            }
        }
        return best;
    }

    public int mouth(int court, int trial, boolean many) {
        Hall played = hallOf(court, trial);
        if (played == null) {
            return NONE;
        }
        int best = NONE;
        int most = 0;
        for (int p = 0; p < played.court.pleaders; p++) {
            int hearers = played.hearersOf(p);
            if (hearers > most) {
                most = hearers;
                best = p;
            }
        }
        return many && best != NONE ? most : best;
    }

    public int rift(int court, int trial, int what) {
        Hall played = hallOf(court, trial);
        if (played == null || played.court.judges < 2) {
            return NONE;
        }
        played.learnAll();
        int first = 0;
        int second = 1;
        int most = NONE;
        for (int a = 0; a < played.court.judges; a++) {
            for (int b = a + 1; b < played.court.judges; b++) {
                int words = Integer.bitCount(played.known[a] ^ played.known[b]);
                if (words > most) {
                    most = words;
                    first = a;
                    second = b;
                }
            }
        }
        switch (what) {
            case 0:
                return first;
            case 1:
                return second;
            case 2:
                return most;
            default:
                return NONE;
        }
    }

    public int count(int sort) {
        return sort >= 0 && sort < SORTS ? told.counts[sort] : NO_SUCH;
    }

    public boolean image(int k) {
        if (k < 0 || k >= IMAGES) {
            return false;
        }
        if (images[k] == null) {
            images[k] = new Told();
        }
        images[k].copyFrom(told);
        return true;
    }

    public boolean again(int k) {
        if (k < 0 || k >= IMAGES || images[k] == null) {
            return false;
        }
        told.copyFrom(images[k]);
        return true;
    }

    /** All that is told, so that an image is a copy of it. */
    private static final class Told {
        final byte[] tape = new byte[TAPE];
        int length;
        int fault;
        int place = NONE;
        final int[] counts = new int[SORTS];
        final Court[] courts = new Court[EACH];
        final Listing[] lists = new Listing[SORTS * EACH];

        Told() {
            for (int i = 0; i < EACH; i++) {
                courts[i] = new Court();
                for (int sort = TRIAL; sort < SORTS; sort++) {
                    lists[slotOf(sort, i)] = Listing.ofSort(sort);
                }
            }
        }

        static int slotOf(int sort, int number) {
            return sort * EACH + number;
        }

        /** Four bytes more, which the caller knows to have room. */
        void append(int bytes) {
            for (int shift = 24; shift >= 0; shift -= 8) {
                if (length < TAPE) {
                    tape[length] = (byte) (bytes >>> shift);
                    length++;
                }
            }
        }

        void copyFrom(Told other) {
            System.arraycopy(other.tape, 0, tape, 0, other.length);
            length = other.length;
            fault = other.fault;
            place = other.place;
            System.arraycopy(other.counts, 0, counts, 0, SORTS);
            for (int i = 0; i < counts[COURT]; i++) {
                courts[i].copyFrom(other.courts[i]);
            }
            for (int sort = TRIAL; sort < SORTS; sort++) {
                for (int i = 0; i < counts[sort]; i++) {
                    lists[slotOf(sort, i)].copyFrom(other.lists[slotOf(sort, i)]);
                }
            }
        }
    }

    /** Rows of numbers: the DEEDS of a TRIAL, the RULES of a LAW, the CLAIMS of a ROLL. */
    private static final class Listing {
        final int width;
        final int[] cells;
        int count;

        private Listing(int rows, int width) {
            this.width = width;
            cells = new int[rows * width];
        }

        static Listing ofSort(int sort) {
            if (sort == TRIAL) {
                return new Listing(DEEDS, 4);
            }
            return sort == LAW ? new Listing(RULES, 3) : new Listing(CLAIMS, 2);
        }

        boolean isFull() {
            return (count + 1) * width > cells.length;
        }

        int at(int row, int column) {
            return cells[row * width + column];
        }

        void put(int column, int value) {
            cells[count * width + column] = value;
        }

        void copyFrom(Listing other) {
            count = other.count;
            System.arraycopy(other.cells, 0, cells, 0, count * width);
        }
    }

    /** A COURT, and how sound goes in it. Sets of FIELDS are bits of a long. */
    private static final class Court {
        // REACH and LOUD together are at most 18
        private static final int RANGES = 19;

        int w;
        int h;
        long walls;
        long open;
        long notWest;
        long notEast;
        int judges;
        final int[] rows = new int[JUDGES * JUDGE_ROW];
        int pleaders;
        final int[] stand = new int[PLEADERS];
        final int[] twin = new int[PLEADERS];
        boolean laid;
        // of each JUDGE: the FIELDS up to so many steps away
        final long[] within = new long[JUDGES * RANGES];
        // of each JUDGE and side as the COURT lies: the FIELDS from which sound COMES from there
        final long[] via = new long[JUDGES * SIDES];

        void reset() {
            w = 5;
            h = 5;
            walls = 0;
            judges = 0;
            pleaders = 0;
            Arrays.fill(twin, NONE);
        }

        void copyFrom(Court other) {
            w = other.w;
            h = other.h;
            walls = other.walls;
            judges = other.judges;
            pleaders = other.pleaders;
            System.arraycopy(other.rows, 0, rows, 0, rows.length);
            System.arraycopy(other.stand, 0, stand, 0, PLEADERS);
            System.arraycopy(other.twin, 0, twin, 0, PLEADERS);
            measure();
        }

        /** All FIELDS, WALLS too. */
        long all() {
            int fields = w * h;
            return fields >= FIELDS ? -1L : (1L << fields) - 1;
        }

        /** What follows from size and WALLS; sound is laid out anew when it is asked for. */
        void measure() {
            long firstColumn = 0;
            for (int y = 0; y < h; y++) {
                firstColumn |= 1L << y * w;
            }
            open = all() & ~walls;
            notWest = open & ~firstColumn;
            notEast = open & ~(firstColumn << (w - 1));
            laid = false;
        }

        boolean isOpen(int field) {
            return field >= 0 && field < FIELDS && has(open, field);
        }

        boolean hasJudge(int judge) {
            return judge >= 0 && judge < judges;
        }

        boolean hasPleader(int pleader) {
            return pleader >= 0 && pleader < pleaders;
        }

        int of(int judge, int what) {
            return rows[judge * JUDGE_ROW + what];
        }

        int faces(int judge, int hour) {
            return of(judge, SIDE) + hour * of(judge, TURN) & 3;
        }

        /** The FIELDS beside these, into which one can step. */
        long grow(long set) {
            long across = (set & notWest) >>> 1 | (set & notEast) << 1;
            return (across | set >>> w | set << w) & open;
        }

        /** The FIELD to that side, as a set; empty at a WALL and the edge. */
        long beside(int field, int side) {
            long set = 1L << field;
            switch (side) {
                case 0:
                    return set >>> w & open;
                case 1:
                    return (set & notEast) << 1 & open;
                case 2:
                    return set << w & open;
                default:
                    return (set & notWest) >>> 1 & open;
            }
        }

        /** The FIELD to that side; NONE at a WALL and the edge. */
        int stepTo(int field, int side) {
            long set = beside(field, side);
            return set == 0 ? NONE : Long.numberOfTrailingZeros(set);
        }

        /** The FIELDS straight on to that side, up to a WALL or the edge. */
        long ray(int field, int side) {
            long set = 0;
            int at = stepTo(field, side);
            for (int i = 0; i < FIELDS && at != NONE; i++) {
                set |= 1L << at;
                at = stepTo(at, side);
            }
            return set;
        }

        /** The fewest steps from a FIELD to one of a set; NONE if none can be reached. */
        int steps(int from, long goal) {
            long seen = 1L << from;
            for (int d = 0; d < FIELDS; d++) {
                if ((seen & goal) != 0) {
                    return d;
                }
                seen |= grow(seen);
            }
            return NONE;
        }

        int parts() {
            long rest = open;
            int parts = 0;
            for (int i = 0; i < FIELDS && rest != 0; i++) {
                rest &= ~connected(Long.lowestOneBit(rest));
                parts++;
            }
            return parts;
        }

        private long connected(long set) {
            for (int i = 0; i < FIELDS; i++) {
                long wider = set | grow(set);
                if (wider == set) {
                    break;
                }
                set = wider;
            }
            return set;
        }

        /** Lays out how sound goes, if that is not done since the COURT was measured. */
        void lay() {
            if (laid) {
                return;
            }
            for (int j = 0; j < judges; j++) {
                layOf(j);
            }
            laid = true;
        }

        private void layOf(int judge) {
            int seat = of(judge, SEAT);
            long seen = 1L << seat;
            within[judge * RANGES] = seen;
            for (int side = 0; side < SIDES; side++) {
                via[judge * SIDES + side] = beside(seat, side);
            }
            for (int d = 1; d < FIELDS; d++) {
                long layer = grow(seen) & ~seen;
                seen |= layer;
                if (d < RANGES) {
                    within[judge * RANGES + d] = seen;
                } else if (layer == 0) {
                    break;
                }
                if (layer != 0) {
                    layVia(judge, layer);
                }
            }
        }

        // no two FIELDS of one layer are beside one another, so what a set grows by
        // within the newest layer has a shortest way through that set
        private void layVia(int judge, long layer) {
            for (int side = 0; side < SIDES; side++) {
                long set = via[judge * SIDES + side];
                via[judge * SIDES + side] = set | grow(set) & layer;
            }
        }

        /** Sides turned by so many quarters clockwise. */
        static int turned(int sides, int quarters) {
            int q = quarters & 3;
            return (sides << q | sides >>> SIDES - q) & ALL_SIDES;
        }

        /** The sides, as the COURT lies, from which a word from another FIELD COMES to a JUDGE. */
        int sidesFrom(int judge, int field) {
            int sides = 0;
            for (int side = 0; side < SIDES; side++) {
                if (has(via[judge * SIDES + side], field)) {
                    sides |= 1 << side;
                }
            }
            return sides;
        }

        /** The FIELDS heard on a JUDGE's seat from sides as the COURT lies, and on it. */
        long audibleFrom(int seat, int sides, int range) {
            // what is no step away is the seat's own FIELD
            long set = within[seat * RANGES];
            for (int side = 0; side < SIDES; side++) {
                if ((sides >>> side & 1) != 0) {
                    set |= via[seat * SIDES + side];
                }
            }
            return set & within[seat * RANGES + range];
        }

        /** The sides, as he sits, from which one with this EAR HEARS. */
        static int sidesOf(int ear) {
            return ear == LEFT_EAR ? AHEAD | TO_LEFT : AHEAD | TO_RIGHT;
        }

        /** The FIELDS from which a JUDGE HEARS. */
        long audible(int judge, int hour, int loud) {
            int sides = turned(sidesOf(of(judge, EAR)), faces(judge, hour));
            return audibleFrom(judge, sides, of(judge, REACH) + loud);
        }

        int earsAt(int field, int hour, int loud) {
            int bits = 0;
            for (int j = 0; j < judges; j++) {
                if (has(audible(j, hour, loud), field)) {
                    bits |= 1 << j;
                }
            }
            return bits;
        }

        int blind(int hour, int loud) {
            long silent = open;
            for (int j = 0; j < judges; j++) {
                silent &= ~audible(j, hour, loud);
            }
            return Long.bitCount(silent);
        }

        int quarter() {
            int best = 0;
            for (int hour = 1; hour < HOURS_A_TURN; hour++) {
                if (blind(hour, 0) < blind(best, 0)) {
                    best = hour;
                }
            }
            return best;
        }
    }

    /** Reads a tape as a text of one sort into drafts, and tells its FAULT. */
    private static final class Reader {
        private static final int END = 0;
        private static final int WORD = 1;
        private static final int NUMBER = 2;
        private static final int DASH = 3;
        private static final int SEMICOLON = 4;
        private static final int NO_TOKEN = 5;

        private static final int SIZE = 0;
        private static final int WALL = 1;
        private static final int LEFT = 2;
        private static final int RIGHT = 3;
        private static final int PLEAD = 4;
        private static final int TWIN = 5;
        private static final int GOES = 6;
        private static final int SAYS = 7;
        private static final int WAITS = 8;
        private static final int VOTES_YES = 9;
        private static final int VOTES_NO = 10;
        private static final int KNOW = 11;
        private static final int FORMS = 12;

        // of each line's form: its sort, how many NUMBERS it has, what heads its row
        private static final int[] SORT_OF = {0, 0, 0, 0, 0, 0, 1, 1, 1, 2, 2, 3};
        private static final int[] NUMBERS = {2, 1, 4, 4, 1, 2, 2, 3, 0, 2, 2, 2};
        private static final int[] HEAD = {0, 0, 0, 1, 0, 0, 0, 1, 2, 1, 0, 0};
        // the greatest that each of its up to four NUMBERS can be
        private static final int[] GREATEST = {
            8, 8, 0, 0,
            63, 0, 0, 0,
            63, 3, 9, 3,
            63, 3, 9, 3,
            63, 0, 0, 0,
            3, 63, 0, 0,
            3, 3, 0, 0,
            3, 9, 9, 0,
            0, 0, 0, 0,
            9, 9, 0, 0,
            9, 9, 0, 0,
            5, 9, 0, 0};
        private static final int LEAST_SIZE = 2;
        private static final int MOST_NUMBERS = 4;

        Court court = new Court();
        final Listing[] lists = new Listing[SORTS];
        int fault;
        int place;

        private byte[] tape;
        private int length;
        private int at;
        private int token;
        private int start;
        private int value;
        private final int[] numbers = new int[MOST_NUMBERS];
        private long toldFields;
        private int toldPleaders;

        Reader() {
            for (int sort = TRIAL; sort < SORTS; sort++) {
                lists[sort] = Listing.ofSort(sort);
            }
        }

        void read(byte[] bytes, int count, int sort) {
            tape = bytes;
            length = count;
            at = 0;
            fault = 0;
            place = NONE;
            toldFields = 0;
            toldPleaders = 0;
            clearDraft(sort);
            advance();
            for (int lines = 0; lines <= length && token != END; lines++) {
                if (!readLine(sort)) {
                    fault = BROKEN_OFF;
                    place = start;
                    return;
                }
            }
            if (sort == COURT && fault == 0) {
                finishCourt();
            }
        }

        private void clearDraft(int sort) {
            if (sort == COURT) {
                court.reset();
            } else {
                lists[sort].count = 0;
            }
        }

        private void advance() {
            while (at < length && (tape[at] == 10 || tape[at] == 32)) {
                at++;
            }
            start = at;
            if (at >= length) {
                token = END;
            } else if (isLetter(tape[at])) {
                passWord();
            } else if (isDigit(tape[at])) {
                passDigits();
            } else {
                int sign = tape[at];
                token = sign == ';' ? SEMICOLON : sign == '-' ? DASH : NO_TOKEN;
                at++;
            }
        }

        private void passWord() {
            token = WORD;
            while (at < length && isLetter(tape[at])) {
                at++;
            }
        }

        private void passDigits() {
            value = 0;
            while (at < length && isDigit(tape[at])) {
                value = value * 10 + tape[at] - '0';
                at++;
            }
            token = at - start <= 2 ? NUMBER : NO_TOKEN;
        }

        private static boolean isLetter(int sign) {
            return sign >= 'a' && sign <= 'z';
        }

        private static boolean isDigit(int sign) {
            return sign >= '0' && sign <= '9';
        }

        /** False, with the token that is wrong as the latest one, if no text goes on so. */
        private boolean readLine(int sort) {
            int form = formHere(sort);
            if (form == NONE) {
                return false;
            }
            if (isOneTooMany(form)) {
                note(ONE_TOO_MANY, start);
            }
            advance();
            Arrays.fill(numbers, NONE);
            for (int i = 0; i < NUMBERS[form]; i++) {
                if (!readNumber(form, i)) {
                    return false;
                }
            }
            for (int i = 0; i < length && form == WALL && token == NUMBER; i++) {
                readNumber(form, 0);
            }
            if (token != SEMICOLON) {
                return false;
            }
            advance();
            keepLine(form);
            return true;
        }

        private int formHere(int sort) {
            if (token == WORD) {
                for (int form = 0; form < FORMS; form++) {
                    if (SORT_OF[form] == sort && isHere(wordOf(form))) {
                        return form;
                    }
                }
            }
            return NONE;
        }

        private static String wordOf(int form) {
            switch (form) {
                case SIZE:
                    return "size";
                case WALL:
                    return "wall";
                case LEFT:
                    return "left";
                case RIGHT:
                    return "right";
                case PLEAD:
                    return "plead";
                case TWIN:
                    return "twin";
                case GOES:
                    return "go";
                case SAYS:
                    return "say";
                case WAITS:
                    return "wait";
                case VOTES_YES:
                    return "yes";
                case VOTES_NO:
                    return "no";
                default:
                    return "know";
            }
        }

        private boolean isHere(String word) {
            if (at - start != word.length()) {
                return false;
            }
            for (int i = 0; i < word.length(); i++) {
                if (tape[start + i] != word.charAt(i)) {
                    return false;
                }
            }
            return true;
        }

        private boolean isOneTooMany(int form) {
            switch (form) {
                case SIZE:
                case WALL:
                case TWIN:
                    return false;
                case LEFT:
                case RIGHT:
                    return court.judges >= JUDGES;
                case PLEAD:
                    return court.pleaders >= PLEADERS;
                default:
                    return lists[SORT_OF[form]].isFull();
            }
        }

        // the tokens come by place, so the first FAULT noted is the first by place
        private void note(int what, int where) {
            if (fault == 0) {
                fault = what;
                place = where;
            }
        }

        private boolean readNumber(int form, int i) {
            if (token == DASH && SORT_OF[form] == LAW) {
                advance();
                return true;
            }
            if (token != NUMBER) {
                return false;
            }
            int greatest = GREATEST[form * MOST_NUMBERS + i];
            if (value > greatest || form == SIZE && value < LEAST_SIZE) {
                note(NO_SUCH_NUMBER, start);
            } else if (greatest == LAST_FIELD) {
                // no NUMBERS but FIELDS go so far
                toldFields |= 1L << value;
                court.walls |= form == WALL ? 1L << value : 0;
            }
            numbers[i] = value;
            advance();
            return true;
        }

        private void keepLine(int form) {
            if (isOneTooMany(form)) {
                return;
            }
            switch (form) {
                case SIZE:
                    court.w = numbers[0];
                    court.h = numbers[1];
                    break;
                case WALL:
                    break;
                case LEFT:
                case RIGHT:
                    keepJudge(form);
                    break;
                case PLEAD:
                    court.stand[court.pleaders] = numbers[0];
                    court.pleaders++;
                    break;
                case TWIN:
                    keepTwin();
                    break;
                default:
                    keepRow(form);
            }
        }

        private void keepJudge(int form) {
            int row = court.judges * JUDGE_ROW;
            court.rows[row + SEAT] = numbers[0];
            court.rows[row + SIDE] = numbers[1];
            court.rows[row + EAR] = form == LEFT ? LEFT_EAR : RIGHT_EAR;
            court.rows[row + REACH] = numbers[2];
            court.rows[row + TURN] = numbers[3];
            court.judges++;
        }

        private void keepTwin() {
            int pleader = numbers[0];
            if (pleader >= 0 && pleader < PLEADERS) {
                toldPleaders |= 1 << pleader;
                court.twin[pleader] = numbers[1];
            }
        }

        private void keepRow(int form) {
            Listing list = lists[SORT_OF[form]];
            int column = 0;
            if (form != KNOW) {
                list.put(0, HEAD[form]);
                column = 1;
            }
            for (int i = 0; column + i < list.width && i < MOST_NUMBERS; i++) {
                list.put(column + i, numbers[i]);
            }
            list.count++;
        }

        private void finishCourt() {
            boolean missing = (toldFields & ~court.all()) != 0
                    || toldPleaders >>> court.pleaders != 0;
            if (missing || isSomebodyInWall()) {
                note(MISSING, length);
            } else {
                court.measure();
            }
        }

        private boolean isSomebodyInWall() {
            long taken = 0;
            for (int j = 0; j < court.judges; j++) {
                taken |= 1L << court.of(j, SEAT);
            }
            for (int p = 0; p < court.pleaders; p++) {
                taken |= 1L << court.stand[p];
                taken |= court.twin[p] == NONE ? 0 : 1L << court.twin[p];
            }
            return (taken & court.walls) != 0;
        }
    }

    /** A TRIAL held on a COURT: where its words were said, and who HEARD them. */
    private static final class Hall {
        Court court;
        Listing trial;
        int stop;
        final int[] places = new int[PLEADERS];
        final int[] twins = new int[PLEADERS];
        // what each JUDGE KNOWS behind all DEEDS, once learnAll() was called
        final int[] known = new int[JUDGES];
        // of each DEED: the FIELDS from which it was said, and the sides that thunder drowns
        private final long[] from = new long[DEEDS];
        private final int[] storms = new int[DEEDS];
        private int seed;

        /** Plays the DEEDS, at most so many, up to the first that can't be. */
        void play(Court place, Listing deeds, int most) {
            court = place;
            trial = deeds;
            for (int p = 0; p < court.pleaders; p++) {
                places[p] = court.stand[p];
                twins[p] = court.twin[p];
            }
            stop = 0;
            for (int k = 0; k < deeds.count && k < most && k < DEEDS; k++) {
                from[k] = 0;
                storms[k] = 0;
                if (!canBe(k)) {
                    break;
                }
                stop++;
            }
        }

        private boolean canBe(int k) {
            int kind = trial.at(k, KIND);
            int who = trial.at(k, WHO);
            if (kind != GO && kind != SAY) {
                return true;
            }
            if (!court.hasPleader(who)) {
                return false;
            }
            if (kind == GO) {
                return step(who, trial.at(k, WHAT));
            }
            from[k] = 1L << places[who];
            if (twins[who] != NONE) {
                from[k] |= 1L << twins[who];
            }
            return true;
        }

        private boolean step(int who, int side) {
            int to = court.stepTo(places[who], side);
            if (to == NONE) {
                return false;
            }
            places[who] = to;
            if (twins[who] != NONE) {
                int twinTo = court.stepTo(twins[who], side + 2 & 3);
                twins[who] = twinTo == NONE ? twins[who] : twinTo;
            }
            return true;
        }

        boolean isSaid(int k) {
            return trial.at(k, KIND) == SAY;
        }

        /** Whether DEED k is HEARD with that REACH on a seat, from sides as the COURT lies. */
        private boolean isHeard(int k, int seat, int reach, int sides) {
            int range = reach + trial.at(k, LOUD);
            return (court.audibleFrom(seat, sides & ~storms[k], range) & from[k]) != 0;
        }

        /**
         * The WORDS of the first n DEEDS that one HEARS on a JUDGE's seat with that REACH from
         * sides as he sits, if the seat is turned by so many quarters at hour 0.
         */
        private int wordsOn(int seat, int reach, int sides, int quarters, int later, int n) {
            int words = 0;
            for (int k = 0; k < n; k++) {
                if (isSaid(k)) {
                    int facing = court.faces(seat, k + later) + quarters;
                    if (isHeard(k, seat, reach, Court.turned(sides, facing))) {
                        words |= 1 << trial.at(k, WHAT);
                    }
                }
            }
            return words;
        }

        /** The WORDS behind all DEEDS, if the JUDGE HEARS from these sides. */
        private int learnedFrom(int judge, int sides) {
            return wordsOn(judge, court.of(judge, REACH), sides, 0, 0, stop);
        }

        private int ownSides(int judge) {
            return Court.sidesOf(court.of(judge, EAR));
        }

        int learned(int judge, int n) {
            return wordsOn(judge, court.of(judge, REACH), ownSides(judge), 0, 0, n);
        }

        int learnedByOtherEar(int judge) {
            int other = court.of(judge, EAR) == LEFT_EAR ? RIGHT_EAR : LEFT_EAR;
            return learnedFrom(judge, Court.sidesOf(other));
        }

        void learnAll() {
            for (int j = 0; j < court.judges; j++) {
                known[j] = learned(j, stop);
            }
        }

        /** How much all JUDGES KNOW, each by itself, if the TRIAL begins so many hours later. */
        int allLearned(int later) {
            int sum = 0;
            for (int j = 0; j < court.judges; j++) {
                int words = wordsOn(j, court.of(j, REACH), ownSides(j), 0, later, stop);
                sum += Integer.bitCount(words);
            }
            return sum;
        }

        /** How much a JUDGE KNOWS, if he FACES that side at hour 0. */
        int knownFacing(int judge, int side) {
            int quarters = side - court.of(judge, SIDE);
            int reach = court.of(judge, REACH);
            return Integer.bitCount(wordsOn(judge, reach, ownSides(judge), quarters, 0, stop));
        }

        /** How much a JUDGE KNOWS on the seat of another one, with his own EAR and REACH. */
        int knownOnSeat(int judge, int seat) {
            int reach = court.of(judge, REACH);
            return Integer.bitCount(wordsOn(seat, reach, ownSides(judge), 0, 0, stop));
        }

        int common(int n) {
            int words = court.judges == 0 ? 0 : WORD_SETS - 1;
            for (int j = 0; j < court.judges; j++) {
                words &= learned(j, n);
            }
            return words;
        }

        int lost(int n) {
            int words = 0;
            for (int k = 0; k < n; k++) {
                words |= isSaid(k) ? 1 << trial.at(k, WHAT) : 0;
            }
            for (int j = 0; j < court.judges; j++) {
                words &= ~learned(j, n);
            }
            return words;
        }

        int hearers(int k) {
            int bits = 0;
            for (int j = 0; j < court.judges; j++) {
                int sides = Court.turned(ownSides(j), court.faces(j, k));
                if (isHeard(k, j, court.of(j, REACH), sides)) {
                    bits |= 1 << j;
                }
            }
            return bits;
        }

        int hearersOf(int pleader) {
            int sum = 0;
            for (int k = 0; k < stop; k++) {
                if (isSaid(k) && trial.at(k, WHO) == pleader) {
                    sum += Integer.bitCount(hearers(k));
                }
            }
            return sum;
        }

        int lossOfSold(int judge) {
            return Integer.bitCount(known[judge]) - Integer.bitCount(learnedFrom(judge, AHEAD));
        }

        int gainOfThird(int judge) {
            int sides = AHEAD | TO_LEFT | TO_RIGHT;
            return Integer.bitCount(learnedFrom(judge, sides)) - Integer.bitCount(known[judge]);
        }

        int dearest() {
            int best = NONE;
            int most = NONE;
            for (int j = 0; j < court.judges; j++) {
                int loss = lossOfSold(j);
                if (loss > most) {
                    most = loss;
                    best = j;
                }
            }
            return best;
        }

        /** The WORDS that a JUDGE could read from lips. */
        int wordsSeen(int judge) {
            int words = 0;
            for (int k = 0; k < stop; k++) {
                if (isSaid(k)) {
                    long ahead = court.ray(court.of(judge, SEAT), court.faces(judge, k));
                    words |= (ahead & from[k]) != 0 ? 1 << trial.at(k, WHAT) : 0;
                }
            }
            return words;
        }

        /** Draws thunder for each DEED: in how many hours there was some. */
        int thunder(int first, int chance) {
            seed = first;
            int hours = 0;
            for (int k = 0; k < stop; k++) {
                if (drawBelow(100) < chance) {
                    storms[k] = 1 << drawBelow(SIDES);
                    hours++;
                }
            }
            return hours;
        }

        private int drawBelow(int n) {
            seed = seed * 1103515245 + 12345;
            return n > 0 ? (seed >>> 16) % n : 0;
        }
    }

    /** The JUDGES' SEATS by which most is KNOWN. */
    private static final class Seating {
        private static final int SETS = 64;

        // how much each JUDGE KNOWS on each one's seat
        private final int[] worth = new int[JUDGES * JUDGES];
        // of a set of seats that the first JUDGES took: the most the others can KNOW
        final int[] best = new int[SETS];
        private int judges;

        void settle(Hall hall) {
            judges = hall.court.judges;
            for (int j = 0; j < judges; j++) {
                for (int seat = 0; seat < judges; seat++) {
                    worth[j * JUDGES + seat] = hall.knownOnSeat(j, seat);
                }
            }
            int full = (1 << judges) - 1;
            best[full] = 0;
            for (int taken = full - 1; taken >= 0; taken--) {
                best[taken] = NONE;
                for (int seat = 0; seat < judges; seat++) {
                    if (!has(taken, seat)) {
                        best[taken] = Math.max(best[taken], worthWith(taken, seat));
                    }
                }
            }
        }

        /** The most, if the next JUDGE takes that seat. */
        private int worthWith(int taken, int seat) {
            int judge = Integer.bitCount(taken);
            return worth[judge * JUDGES + seat] + best[taken | 1 << seat];
        }

        int seatOf(int judge) {
            int taken = 0;
            int seat = NONE;
            for (int j = 0; j <= judge; j++) {
                seat = leastSeat(taken);
                taken |= 1 << seat;
            }
            return seat;
        }

        private int leastSeat(int taken) {
            for (int seat = 0; seat < judges; seat++) {
                if (!has(taken, seat) && worthWith(taken, seat) == best[taken]) {
                    return seat;
                }
            }
            return 0;
        }
    }

    /** The fewest hours till all JUDGES have heard a PLEADER who goes and says as he likes. */
    private static final class Walk {
        private static final int SETS = 64;
        private static final int SAYS = 4;
        private static final int WAITS = 5;

        // of each hour and set of JUDGES who have heard: where he can be then; behind a
        // search that finds a way only what leads to its end in time is left
        private final long[] reach = new long[(ROUND_HOURS + 1) * SETS];
        // of each hour of four and set of JUDGES: the FIELDS from which just these HEAR
        private final long[] bands = new long[HOURS_A_TURN * SETS];
        private Court court;
        private int start;
        private int full;

        /** How many hours; NONE if they are too few. */
        int search(Court place, int from, int loud) {
            court = place;
            start = from;
            full = (1 << place.judges) - 1;
            layBands(loud);
            Arrays.fill(reach, 0, SETS, 0L);
            reach[0] = 1L << from;
            for (int hour = 0; hour < ROUND_HOURS; hour++) {
                spread(hour);
                if (reach[(hour + 1) * SETS + full] != 0) {
                    prune(hour + 1);
                    return hour + 1;
                }
            }
            return NONE;
        }

        private void layBands(int loud) {
            Arrays.fill(bands, 0L);
            for (int hour = 0; hour < HOURS_A_TURN; hour++) {
                for (int field = 0; field < FIELDS; field++) {
                    if (court.isOpen(field)) {
                        int ears = court.earsAt(field, hour, loud);
                        bands[hour * SETS + ears] |= 1L << field;
                    }
                }
            }
        }

        private long band(int hour, int ears) {
            return bands[(hour & 3) * SETS + ears];
        }

        private void spread(int hour) {
            int now = hour * SETS;
            int next = now + SETS;
            Arrays.fill(reach, next, next + SETS, 0L);
            for (int heard = 0; heard <= full; heard++) {
                long here = reach[now + heard];
                if (here != 0) {
                    reach[next + heard] |= here | court.grow(here);
                    for (int ears = 1; ears <= full; ears++) {
                        reach[next + (heard | ears)] |= here & band(hour, ears);
                    }
                }
            }
        }

        private void prune(int hours) {
            for (int heard = 0; heard < full; heard++) {
                reach[hours * SETS + heard] = 0;
            }
            for (int hour = hours - 1; hour >= 0; hour--) {
                for (int heard = 0; heard <= full; heard++) {
                    if (reach[hour * SETS + heard] != 0) {
                        reach[hour * SETS + heard] &= leading(hour, heard);
                    }
                }
            }
        }

        /** The FIELDS from which he gets on in time. */
        private long leading(int hour, int heard) {
            int next = (hour + 1) * SETS;
            long same = reach[next + heard];
            long set = same | court.grow(same);
            for (int ears = 1; ears <= full; ears++) {
                set |= band(hour, ears) & reach[next + (heard | ears)];
            }
            return set;
        }

        /** What he does at an hour of the way found. */
        int actAt(int hour) {
            int field = start;
            int heard = 0;
            int act = WAITS;
            for (int h = 0; h <= hour; h++) {
                int ears = earsOn(field, h);
                act = firstAct(h, field, heard, ears);
                if (act < SIDES) {
                    field = court.stepTo(field, act);
                } else if (act == SAYS) {
                    heard |= ears;
                }
            }
            return act;
        }

        private int earsOn(int field, int hour) {
            for (int ears = 0; ears <= full; ears++) {
                if (has(band(hour, ears), field)) {
                    return ears;
                }
            }
            return 0;
        }

        private int firstAct(int hour, int field, int heard, int ears) {
            int next = (hour + 1) * SETS;
            for (int side = 0; side < SIDES; side++) {
                if ((court.beside(field, side) & reach[next + heard]) != 0) {
                    return side;
                }
            }
            return has(reach[next + (heard | ears)], field) ? SAYS : WAITS;
        }
    }
}
