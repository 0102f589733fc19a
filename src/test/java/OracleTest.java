import java.nio.charset.StandardCharsets;
import java.util.Random;

/** Random runs of calls on OneEared and on the Oracle, whose answers must be the same. */
final class OracleTest {
    private static final int RUNS = Integer.getInteger("runs", 600);

    private final Random random;
    private final OneEared x = new OneEared();
    private final Oracle o = new Oracle();
    private final int run;
    private int w = 5;
    private int h = 5;

    private OracleTest(int run) {
        this.run = run;
        random = new Random(run * 7919L + 17);
    }

    public static void main(String[] args) {
        int first = Integer.getInteger("first", 0);
        int wrong = 0;
        for (int run = first; run < first + RUNS; run++) {
            wrong += new OracleTest(run).play() ? 0 : 1;
        }
        System.out.println(RUNS + " random runs, " + wrong + " wrong");
        if (wrong != 0) {
            System.exit(1);
        }
    }

    // what an object answers behind its 512th call is free
    private static final int CALLS = 512;
    // as many as one change or question makes at the most
    private static final int AT_ONCE = 50;

    private boolean agreed = true;
    private int calls;

    private void same(String call, int got, int want) {
        calls++;
        if (got != want) {
            agreed = false;
            System.out.println("run " + run + ": " + call + " answered " + got + ", the oracle " + want);
        }
    }

    private void same(String call, boolean got, boolean want) {
        same(call, got ? 1 : 0, want ? 1 : 0);
    }

    private int below(int n) {
        return random.nextInt(n);
    }

    /** Mostly 0 .. n - 1, now and then what is beside, or far off. */
    private int about(int n) {
        int die = below(24);
        if (die == 0) {
            return new int[] {Integer.MIN_VALUE, Integer.MAX_VALUE, -3, 1000, -2147483639}[below(5)];
        }
        return die == 1 ? n : die == 2 ? -1 : die == 3 ? -2 : n > 0 ? below(n) : 0;
    }

    private boolean play() {
        for (int sort = 0; sort < 4; sort++) {
            tell(sort, -1, valid(sort));
            if (below(2) == 0) {
                tell(sort, -1, below(2) == 0 ? valid(sort) : spoiled(valid(sort)));
            }
        }
        while (calls + AT_ONCE < CALLS) {
            if (below(12) == 0) {
                change();
            } else {
                ask(below(40));
            }
            if (!agreed) {
                return false;
            }
        }
        return true;
    }

    private void change() {
        int sort = below(4);
        switch (below(6)) {
            case 0 -> tell(sort, about(2), valid(sort));
            case 1 -> tell(sort, about(2), spoiled(valid(sort)));
            case 2 -> tell(about(4), about(2), spoiled(valid(sort)));
            case 3 -> {
                int k = about(3);
                same("image(" + k + ")", x.image(k), o.image(k));
            }
            case 4 -> {
                int k = about(3);
                same("again(" + k + ")", x.again(k), o.again(k));
            }
            default -> {
                feed(new byte[20 * (1 + below(4))]);
                int n = about(100);
                same("end(" + n + ")", x.end(n), o.end(n));
            }
        }
    }

    private void feed(byte[] bytes) {
        for (int i = 0; i < bytes.length; i += 20) {
            int[] n = new int[5];
            for (int k = 0; k < 5; k++) {
                n[k] = Due.four(bytes, i + 4 * k);
            }
            same("feed", x.feed(n[0], n[1], n[2], n[3], n[4]), o.feed(n));
        }
    }

    private void tell(int sort, int at, String text) {
        if (below(30) != 0) {
            same("end(0)", x.end(0), o.end(0));
        }
        byte[] bytes = text.getBytes(StandardCharsets.ISO_8859_1);
        feed(bytes);
        same("end", x.end(bytes.length), o.end(bytes.length));
        String call = "text(" + sort + ", " + at + ") of '" + text + "'";
        same(call, x.text(sort, at), o.text(sort, at));
        for (int what = -1; what < 3; what++) {
            same("fault(" + what + ") of " + call, x.fault(what), o.fault(what));
        }
    }

    // ---- texts ----

    private String valid(int sort) {
        StringBuilder text = new StringBuilder();
        int most = below(4);
        switch (sort) {
            case 0 -> courtText(text);
            case 1 -> {
                int deeds = below(most == 0 ? 32 : 16);
                for (int k = 0; k < deeds; k++) {
                    int p = below(12) == 0 ? below(4) : below(2);
                    switch (below(7)) {
                        case 0, 1, 2 -> text.append("go ").append(p).append(' ').append(below(4)).append(";");
                        case 3 -> text.append("wait;");
                        default -> text.append("say ").append(p).append(' ').append(below(10)).append(' ')
                                .append(below(10)).append(";");
                    }
                }
            }
            case 2 -> {
                int rules = below(most == 0 ? 10 : 6);
                for (int k = 0; k < rules; k++) {
                    text.append(below(2) == 0 ? "yes " : "no ").append(maybe()).append(' ').append(maybe()).append(";");
                }
            }
            default -> {
                int claims = below(most == 0 ? 14 : 9);
                for (int k = 0; k < claims; k++) {
                    text.append("know ").append(below(6)).append(' ').append(below(10)).append(";\n");
                }
            }
        }
        return text.toString();
    }

    private String maybe() {
        return below(3) == 0 ? "-" : "" + below(10);
    }

    private void courtText(StringBuilder text) {
        w = 5;
        h = 5;
        if (below(5) != 0) {
            w = 2 + below(7);
            h = 2 + below(7);
            text.append("size ").append(w).append(' ').append(h).append(";");
        }
        int walls = below(3) == 0 ? below(w * h) : below(w * h / 3 + 1);
        boolean[] wall = new boolean[64];
        for (int i = 0; i < walls; i++) {
            int f = below(w * h);
            wall[f] = true;
            text.append(i == 0 ? "wall " : " ").append(f);
        }
        text.append(walls > 0 ? ";" : "");
        int judges = below(30) == 0 ? 7 : below(7);
        for (int j = 0; j < judges; j++) {
            text.append(below(2) == 0 ? "left " : "right ").append(free(wall)).append(' ').append(below(4)).append(' ')
                    .append(below(2) == 0 ? below(10) : below(4)).append(' ').append(below(4)).append(";");
        }
        int pleaders = below(30) == 0 ? 5 : below(5);
        for (int p = 0; p < pleaders; p++) {
            text.append("plead ").append(free(wall)).append(";");
            if (below(2) == 0) {
                text.append("twin ").append(below(p + 1)).append(' ').append(free(wall)).append(";");
            }
        }
    }

    private int free(boolean[] wall) {
        for (int i = 0; i < 500; i++) {
            int f = below(w * h);
            if (!wall[f]) {
                return f;
            }
        }
        return below(w * h);
    }

    private String spoiled(String text) {
        StringBuilder s = new StringBuilder(text);
        for (int i = below(4); i >= 0; i--) {
            int at = below(s.length() + 1);
            String[] bits = {"0", "7", "9", "12", "63", "64", "-", ";", " ", "\n", "x", "go", "\u00e9", "\t", "wall 5;",
                "twin 0 3;", "plead 7;", "size 3 9;", "size 4 4;", "left 3 3 3 3;", "know 5 9;", "yes 1 -;", "wait;"};
            String bit = bits[below(bits.length)];
            if (below(2) == 0 || at == s.length()) {
                s.insert(at, bit);
            } else {
                s.replace(at, Math.min(s.length(), at + 1 + below(2)), below(2) == 0 ? "" : bit);
            }
        }
        return s.toString();
    }

    // ---- calls ----

    private void ask(int call) {
        int c = about(o.count(0));
        int t = about(o.count(1));
        int j = about(Math.max(1, o.court(c, 3)));
        int p = about(Math.max(1, o.court(c, 4)));
        int f = about(Math.max(4, o.court(c, 0) * o.court(c, 1)));
        if (call < 12) {
            askCourt(call, c, j, p, f);
        } else if (call < 27) {
            askTrial(call, c, t, j, p);
        } else {
            askRest(call, c, t, j, f);
        }
    }

    private static String at(String name, Object... args) {
        StringBuilder text = new StringBuilder(name).append('(');
        for (Object arg : args) {
            text.append(arg).append(' ');
        }
        return text.append(')').toString();
    }

    private void askCourt(int call, int c, int j, int p, int f) {
        int hour = about(100);
        int loud = about(10);
        int what = about(7);
        boolean flag = below(2) == 0;
        int g = about(30);
        int other = about(6);
        switch (call) {
            case 0 -> same(at("court", c, what), x.court(c, what), o.court(c, what));
            case 1 -> same(at("wall", c, f), x.wall(c, f), o.wall(c, f));
            case 2 -> {
                int w2 = flag ? what : about(112);
                same(at("judge", c, j, w2), x.judge(c, j, w2), o.judge(c, j, w2));
            }
            case 3 -> same(at("pleader", c, p, flag), x.pleader(c, p, flag), o.pleader(c, p, flag));
            case 4 -> same(at("far", c, f, g), x.far(c, f, g), o.far(c, f, g));
            case 5 -> same(at("comes", c, j, f, hour), x.comes(c, j, f, hour), o.comes(c, j, f, hour));
            case 6 -> same(at("ears", c, f, hour, loud), x.ears(c, f, hour, loud), o.ears(c, f, hour, loud));
            case 7 -> same(at("pulpit", c, hour, loud, flag), x.pulpit(c, hour, loud, flag), o.pulpit(c, hour, loud, flag));
            case 8 -> same(at("near", c, j, p, loud), x.near(c, j, p, loud), o.near(c, j, p, loud));
            case 9 -> {
                for (int i = 0; i < 14; i++) {
                    int w2 = i == 0 ? 0 : i == 1 ? about(80) : 8 + i;
                    same(at("round", c, p, loud, w2), x.round(c, p, loud, w2), o.round(c, p, loud, w2));
                }
            }
            case 10 -> {
                int a = flag ? NONE : j;
                same(at("echo", c, a, other, loud), x.echo(c, a, other, loud), o.echo(c, a, other, loud));
                same(at("echo", c, a, NONE, loud), x.echo(c, a, NONE, loud), o.echo(c, a, NONE, loud));
            }
            default -> same(at("areas", c, flag ? NONE : loud), x.areas(c, flag ? NONE : loud), o.areas(c, flag ? NONE : loud));
        }
    }

    private static final int NONE = -1;

    private void askTrial(int call, int c, int t, int j, int p) {
        int k = below(3) == 0 ? about(30) : about(Math.max(1, o.stop(c, t)));
        int what = about(4);
        boolean flag = below(2) == 0;
        switch (call) {
            case 12 -> same(at("deed", t, k, what), x.deed(t, k, what), o.deed(t, k, what));
            case 13 -> same(at("stop", c, t), x.stop(c, t), o.stop(c, t));
            case 14, 15 -> same(at("stands", c, t, k, p, flag), x.stands(c, t, k, p, flag), o.stands(c, t, k, p, flag));
            case 16, 17, 18 -> {
                for (int who = -3; who < 7; who++) {
                    same(at("knows", c, t, k, who), x.knows(c, t, k, who), o.knows(c, t, k, who));
                }
            }
            case 19 -> same(at("heard", c, t, k), x.heard(c, t, k), o.heard(c, t, k));
            case 20 -> same(at("mouth", c, t, flag), x.mouth(c, t, flag), o.mouth(c, t, flag));
            case 21 -> same(at("rift", c, t, what), x.rift(c, t, what), o.rift(c, t, what));
            case 22, 23 -> {
                int seed = random.nextInt();
                int chance = about(101);
                int w2 = below(3) == 0 ? about(17) : flag ? what : 10 + j;
                same(at("drawn", c, t, seed, chance, w2), x.drawn(c, t, seed, chance, w2), o.drawn(c, t, seed, chance, w2));
            }
            case 24 -> same(at("bench", c, t, j), x.bench(c, t, j), o.bench(c, t, j));
            case 25 -> same(at("sold", c, t, j, flag), x.sold(c, t, j, flag), o.sold(c, t, j, flag));
            default -> {
                for (int who = -2; who < 7; who++) {
                    same(at("seats", c, t, who), x.seats(c, t, who), o.seats(c, t, who));
                }
            }
        }
    }

    private void askRest(int call, int c, int t, int j, int f) {
        int l = about(o.count(2));
        int r = about(o.count(3));
        int k = about(9);
        int what = about(4);
        int hour = about(100);
        int n = about(7);
        switch (call) {
            case 27 -> same(at("rule", l, k, what), x.rule(l, k, what), o.rule(l, k, what));
            case 28, 29 -> same(at("votes", c, t, l, j), x.votes(c, t, l, j), o.votes(c, t, l, j));
            case 30 -> same(at("votes", c, t, l, NONE), x.votes(c, t, l, NONE), o.votes(c, t, l, NONE));
            case 31, 32 -> same(at("sway", c, t, l, what), x.sway(c, t, l, what), o.sway(c, t, l, what));
            case 33 -> same(at("idle", c, t, l), x.idle(c, t, l), o.idle(c, t, l));
            case 34 -> {
                for (int v = -1; v < 3; v++) {
                    same(at("persuade", c, t, l, v), x.persuade(c, t, l, v), o.persuade(c, t, l, v));
                }
            }
            case 35 -> same(at("claim", r, k, what), x.claim(r, k, what), o.claim(r, k, what));
            case 36, 37 -> {
                for (int w2 = -1; w2 < 5; w2++) {
                    same(at("lips", c, t, r, w2), x.lips(c, t, r, w2), o.lips(c, t, r, w2));
                }
            }
            case 38 -> same(at("hush", c, f, hour, n), x.hush(c, f, hour, n), o.hush(c, f, hour, n));
            default -> same(at("count", what), x.count(what), o.count(what));
        }
    }
}
