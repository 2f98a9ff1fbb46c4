import java.util.Random;

/** Random runs of calls, sensible and wild, on DewMarket and PlainMarket side by side: all answers must agree. */
public final class CompareTests {
    private static final int[] EDGES = {
        Integer.MIN_VALUE, Integer.MIN_VALUE + 1, -1000000, -100, -2, -1, 0, 1, 2, 31, 32, 64, 999, 9999, 10000,
        1 << 16, 1 << 30, Integer.MAX_VALUE - 1, Integer.MAX_VALUE
    };
    private static final String[] WORDS = {
        "forms", "dries", "tears", "when", "or", "and", "not", "beads", "spun", "place", "near", "torn", "mist", "sun",
        "wind", "minute", "at", "gatherer", "go", "take", "sell", "spin", "web", "Beads", "x", ";", "+", "-", "*", "/",
        "(", ")", "<", "=", ">", "0", "7", "12345", "\t", "\u00ff", "!", "\u0000"
    };

    private final Random random;
    private final Check check;
    private final DewMarket m = new DewMarket();
    private final PlainMarket p = new PlainMarket();
    private final String run;
    private final StringBuilder calls = new StringBuilder();
    /** How often of a hundred an argument is wild. */
    private final int wild;
    /** The last place at which most webs, gatherers and mourners are. */
    private final int spread;

    private CompareTests(int seed, Check check) {
        // seeds side by side begin alike, so they are spread
        this.random = new Random(seed * 0x9E3779B97F4A7C15L);
        this.check = check;
        this.run = "run " + seed + ": ";
        this.wild = seed % 4 == 0 ? 15 : 1;
        this.spread = seed % 3;
    }

    public static void main(String[] args) {
        int runs = args.length > 0 ? Integer.parseInt(args[0]) : 600;
        Check check = new Check();
        for (int seed = 1; seed <= runs; seed++) {
            new CompareTests(seed, check).go();
        }
        check.close("CompareTests");
    }

    private void go() {
        int kind = random.nextInt(8);
        if (kind > 0) {
            for (int i = 0; i < 18; i++) {
                populate();
            }
            int mist = random.nextInt(10);
            eq(name("set", 3, 0, mist), m.set(3, 0, mist), p.set(3, 0, mist));
        }
        for (int i = 0; i < 250; i++) {
            int pick = random.nextInt(kind > 4 ? 50 : 10);
            if (kind == 1 || pick < 2 && kind != 2) {
                text();
            } else if (kind == 2 || pick < 4) {
                thought();
            } else {
                hedge();
            }
            if (i % 25 == 0) {
                everything();
            }
        }
        everything();
    }

    private int upTo(int high) {
        return random.nextInt(high + 1);
    }

    /** Mostly within, sometimes just beside, sometimes far off. */
    private int arg(int low, int high) {
        int dice = random.nextInt(100);
        if (dice < wild) {
            return EDGES[random.nextInt(EDGES.length)];
        }
        if (dice < wild + 4) {
            return random.nextBoolean() ? low - 1 : high + 1;
        }
        if (dice < wild + 10) {
            return random.nextBoolean() ? low : high;
        }
        return low + random.nextInt(Math.max(1, high - low + 1));
    }

    private void eq(String call, int got, int want) {
        calls.append(call).append(' ');
        if (got != want) {
            System.out.println(run + "the last calls: " + calls.substring(Math.max(0, calls.length() - 600)));
        }
        check.eq(run + call, got, want);
    }

    private void eq(String call, boolean got, boolean want) {
        eq(call, got ? 1 : 0, want ? 1 : 0);
    }

    private static String name(String call, int... args) {
        StringBuilder name = new StringBuilder(call).append('(');
        for (int i = 0; i < args.length; i++) {
            name.append(i > 0 ? ", " : "").append(args[i]);
        }
        return name.append(')').toString();
    }

    private void populate() {
        int a = arg(0, random.nextInt(6) == 0 ? 19 : spread);
        switch (random.nextInt(3)) {
            case 0 -> {
                int b = arg(1, 30);
                eq(name("web", a, b), m.web(a, b), p.web(a, b));
            }
            case 1 -> eq(name("gatherer", a), m.gatherer(a), p.gatherer(a));
            default -> {
                int b = arg(0, 99);
                int c = arg(1, 9);
                eq(name("mourner", a, b, c), m.mourner(a, b, c), p.mourner(a, b, c));
            }
        }
    }

    private void hedge() {
        switch (random.nextInt(16)) {
            case 0 -> {
                if (random.nextInt(4) == 0) {
                    populate();
                }
            }
            case 1, 2 -> setOne();
            case 3, 4, 5, 6, 7 -> actOne();
            case 8, 9 -> {
                int n = random.nextInt(3) == 0 ? arg(1, 60) : arg(1, 4);
                eq(name("minutes", n), m.minutes(n), p.minutes(n));
            }
            case 10 -> {
                int n = arg(1, 60);
                int what = arg(0, 3);
                eq(name("goes", n, what), m.goes(n, what), p.goes(n, what));
            }
            case 11 -> {
                int who = arg(0, 9);
                eq(name("weeps", who), m.weeps(who), p.weeps(who));
            }
            case 12, 13 -> eq("undo", m.undo(), p.undo());
            case 14 -> {
                int v = random.nextInt();
                if (random.nextInt(5) == 0) {
                    eq(name("state", v), m.state(v), p.state(v));
                }
            }
            default -> {
                boolean taken = random.nextInt(3) > 0;
                if (random.nextInt(5) == 0) {
                    eq("image " + taken, m.image(taken), p.image(taken));
                }
            }
        }
    }

    private void setOne() {
        int what = arg(0, 5);
        int who = arg(0, 5);
        int v = arg(0, what == 2 ? 99 : what == 1 ? 40 : what == 0 ? 50 : 9);
        eq(name("set", what, who, v), m.set(what, who, v), p.set(what, who, v));
    }

    private void actOne() {
        int what = random.nextInt(3) == 0 ? arg(0, 3) : 1 + random.nextInt(2);
        int who = arg(0, m.look(1) - 1);
        int v = what == 0 ? arg(0, random.nextBoolean() ? spread : 19) : what == 1 ? arg(1, 40) : arg(0, m.look(2) - 1);
        eq(name("act", what, who, v), m.act(what, who, v), p.act(what, who, v));
    }

    private void text() {
        int k = random.nextInt(40) == 0 ? arg(0, 3) : upTo(3);
        String told = random.nextInt(30) == 0 ? "" : k == 0 ? law() : lines(k);
        if (random.nextInt(3) == 0) {
            told = spoilt(told);
        }
        if (told.length() > 400) {
            told = told.substring(0, 400);
        }
        byte[] bytes = told.getBytes(java.nio.charset.StandardCharsets.ISO_8859_1);
        for (int i = 0; i < bytes.length || random.nextInt(9) == 0; i += 20) {
            int[] f = new int[5];
            for (int j = 0; j < 5; j++) {
                f[j] = Check.four(bytes, i + 4 * j);
            }
            eq(name("feed", f), m.feed(f[0], f[1], f[2], f[3], f[4]), p.feed(f));
        }
        int n = random.nextInt(15) == 0 ? arg(0, 400) : bytes.length;
        eq(name("end", n), m.end(n), p.end(n));
        eq("text(" + k + ") '" + told + "'", m.text(k), p.text(k));
        eq("fault(0) of '" + told + "'", m.fault(0), p.fault(0));
        eq("fault(1) of '" + told + "'", m.fault(1), p.fault(1));
        for (int web = 0; web < m.look(0); web++) {
            for (int what = 4; what <= 7; what++) {
                eq(name("of", web, what), m.of(web, what), p.of(web, what));
            }
        }
    }

    private String gap() {
        return random.nextInt(6) == 0 ? random.nextBoolean() ? "\n" : "  " : " ";
    }

    private String law() {
        StringBuilder told = new StringBuilder();
        int lines = random.nextInt(12) == 0 ? 17 : 1 + random.nextInt(5);
        for (int i = 0; i < lines; i++) {
            told.append(WORDS[random.nextInt(3)]).append(gap());
            told.append(lines > 15 ? "1" : sum());
            if (lines < 16 && random.nextInt(3) > 0) {
                told.append(gap()).append("when").append(gap()).append(condition(random.nextInt(9) == 0 ? 9 : 2));
            }
            told.append(";").append(random.nextInt(3) == 0 ? gap() : "");
        }
        return told.toString();
    }

    private String sum() {
        StringBuilder told = new StringBuilder(unit());
        while (random.nextInt(2) == 0) {
            int sign = random.nextInt(4);
            told.append(random.nextBoolean() ? gap() : "").append("+-*/".charAt(sign));
            if (sign < 3) {
                told.append(unit());
            } else {
                told.append(random.nextInt(20) == 0 ? 0 : 1 + random.nextInt(random.nextBoolean() ? 9 : 9999));
            }
        }
        return told.toString();
    }

    private String unit() {
        if (random.nextInt(2) == 0) {
            return gap() + WORDS[7 + random.nextInt(9)];
        }
        int size = random.nextInt(10);
        return String.valueOf(random.nextInt(size < 5 ? 10 : size < 8 ? 100 : 10000));
    }

    private String condition(int depth) {
        int dice = random.nextInt(depth > 2 ? 3 : 7);
        if (depth > 0 && dice < 1) {
            return "not" + gap() + condition(depth - 1);
        }
        if (depth > 0 && dice < 3) {
            return "(" + condition(depth - 1) + ")";
        }
        if (depth > 0 && dice < 5) {
            return condition(depth - 1) + gap() + (dice == 3 ? "or" : "and") + gap() + condition(depth - 1);
        }
        return sum() + "<=>".charAt(random.nextInt(3)) + sum();
    }

    private String lines(int k) {
        StringBuilder told = new StringBuilder();
        int lines = random.nextInt(15) == 0 ? 17 : random.nextInt(9);
        for (int i = 0; i < lines; i++) {
            if (k == 3) {
                told.append("web").append(gap()).append(less(m.look(0))).append("near").append(less(m.look(0)));
            } else {
                int soon = m.look(8) + random.nextInt(8);
                told.append("at ").append(random.nextInt(50) == 0 ? less(1000) : soon).append(gap());
                told.append(k == 1 ? path() : sky());
            }
            told.append(random.nextBoolean() ? gap() : "").append(";");
        }
        return told.toString();
    }

    private int less(int many) {
        return random.nextInt(60) == 0 ? many : random.nextInt(Math.max(1, many));
    }

    private String path() {
        String told = "gatherer " + less(m.look(1));
        return switch (random.nextInt(3)) {
            case 0 -> told + "go" + less(random.nextBoolean() ? 20 : spread + 1);
            case 1 -> told + "take" + (random.nextInt(60) == 0 ? 0 : 1 + less(40));
            default -> told + "sell " + less(m.look(2)) + " " + (random.nextInt(60) == 0 ? 0 : 1 + less(40));
        };
    }

    private String sky() {
        int word = random.nextInt(4);
        return WORDS[word == 3 ? 21 : 12 + word] + " " + less(word == 3 ? m.look(0) : 10);
    }

    private String spoilt(String told) {
        int at = random.nextInt(told.length() + 1);
        String word = WORDS[random.nextInt(WORDS.length)];
        return switch (random.nextInt(4)) {
            case 0 -> told.substring(0, at);
            case 1 -> told.substring(0, at) + word + told.substring(at);
            case 2 -> told.substring(0, at) + (at < told.length() ? told.substring(at + 1) : "");
            default -> told.substring(0, at) + " " + word + " " + told.substring(at);
        };
    }

    private void thought() {
        int what = arg(0, 2);
        switch (random.nextInt(24)) {
            case 0, 1, 2 -> {
                int a = rarelyNone(arg(0, 5));
                int b = arg(0, 5);
                eq(name("thread", a, b), m.thread(a, b), p.thread(a, b));
            }
            case 3 -> eq("hangs", m.hangs(), p.hangs());
            case 4, 5 -> {
                int a = arg(0, 8);
                int b = arg(-9, 9);
                eq(name("cell", a, b), m.cell(a, b), p.cell(a, b));
                eq("determinant", m.determinant(), p.determinant());
            }
            case 6, 7 -> {
                int a = rarelyNone(arg(0, 99));
                int b = arg(-99, 99);
                eq(name("mark", a, b), m.mark(a, b), p.mark(a, b));
            }
            case 8 -> {
                int a = arg(0, 99);
                eq(name("marks", a, 0), m.marks(a, 0), p.marks(a, 0));
                eq(name("marks", a, 1), m.marks(a, 1), p.marks(a, 1));
                eq(name("marks", a, what), m.marks(a, what), p.marks(a, what));
            }
            case 9, 10 -> {
                int a = rarelyNone(arg(0, 11));
                int b = arg(0, 11);
                eq(name("chord", a, b), m.chord(a, b), p.chord(a, b));
                eq(name("chords", what), m.chords(what), p.chords(what));
            }
            case 11, 12 -> {
                int a = rarelyNone(arg(0, 20));
                int b = arg(0, random.nextBoolean() ? 2 : 20);
                eq(name("stop", a, b), m.stop(a, b), p.stop(a, b));
                if (random.nextInt(8) == 0) {
                    eq(name("round", what), m.round(what), p.round(what));
                }
            }
            case 13, 14 -> {
                int a = rarelyNone(arg(0, random.nextBoolean() ? 2 : 9));
                eq(name("digit", a), m.digit(a), p.digit(a));
                if (random.nextInt(4) == 0) {
                    eq(name("order", what), m.order(what), p.order(what));
                }
            }
            case 15, 16 -> {
                int a = rarelyNone(arg(0, 14));
                eq(name("sign", a), m.sign(a), p.sign(a));
                eq(name("stack", what), m.stack(what), p.stack(what));
            }
            case 17, 18 -> {
                int a = rarelyNone(arg(0, 9));
                int b = random.nextInt(3) == 0 ? what : 100 + arg(0, random.nextBoolean() ? 12 : 108);
                eq(name("run", a), m.run(a), p.run(a));
                eq(name("runs", b), m.runs(b), p.runs(b));
            }
            case 19, 20 -> {
                int a = arg(0, 5);
                int b = arg(0, 5);
                boolean open = random.nextInt(5) > 0;
                eq(name("hole", a, b), m.hole(a, b, open), p.hole(a, b, open));
                eq(name("leaks", what), m.leaks(what), p.leaks(what));
            }
            case 21 -> numbers(what);
            case 22 -> {
                int n = arg(1, 40);
                int k = arg(1, 9);
                eq(name("colours", n, k, what), m.colours(n, k, what), p.colours(n, k, what));
            }
            default -> playGame();
        }
    }

    private int rarelyNone(int v) {
        return v == -1 && random.nextInt(3) > 0 ? 0 : v;
    }

    private void numbers(int what) {
        int n = arg(0, 9999);
        int k = arg(-1, 14);
        eq(name("ones", n, k), m.ones(n, k), p.ones(n, k));
        eq(name("strung", n, what), m.strung(n, what), p.strung(n, what));
    }

    private void playGame() {
        int w = arg(1, 4);
        int h = arg(1, 4);
        int bits = w > 0 && w < 5 && h > 0 && h < 5 ? (1 << w * h) - 1 : 65535;
        int full = random.nextInt() & bits;
        full = random.nextBoolean() ? full & random.nextInt() : full;
        full = random.nextInt(20) == 0 ? EDGES[random.nextInt(EDGES.length)] : full;
        eq(name("game", w, h, full), m.game(w, h, full), p.game(w, h, full));
    }

    private void everything() {
        for (int what = -1; what <= 16; what++) {
            eq(name("look", what), m.look(what), p.look(what));
        }
        for (int i = -1; i <= 12; i++) {
            for (int what = -1; what <= 8; what++) {
                eq(name("of", i, what), m.of(i, what), p.of(i, what));
                eq(name("who", i, what), m.who(i, what), p.who(i, what));
                eq(name("weeper", i, what), m.weeper(i, what), p.weeper(i, what));
            }
        }
        for (int i = -1; i <= 150; i++) {
            for (int what = -1; what <= 4; what++) {
                eq(name("book", i, what), m.book(i, what), p.book(i, what));
            }
        }
        for (int place = -1; place <= 20; place++) {
            eq(name("claims", place), m.claims(place), p.claims(place));
        }
        for (int what = -1; what <= 2; what++) {
            eq(name("chords", what), m.chords(what), p.chords(what));
            eq(name("stack", what), m.stack(what), p.stack(what));
            eq(name("runs", what), m.runs(what), p.runs(what));
            eq(name("leaks", what), m.leaks(what), p.leaks(what));
            eq(name("fault", what), m.fault(what), p.fault(what));
        }
        eq("hangs", m.hangs(), p.hangs());
        eq("determinant", m.determinant(), p.determinant());
    }
}
