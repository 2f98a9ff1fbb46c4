import java.util.ArrayDeque;
import java.util.ArrayList;
import java.util.Arrays;
import java.util.Deque;
import java.util.HashMap;
import java.util.HashSet;
import java.util.List;
import java.util.Map;
import java.util.Set;
import java.util.TreeMap;
import java.util.TreeSet;
import java.util.function.Predicate;
import java.util.function.ToIntFunction;

/** A second telling of the document, slow and in ordinary Java, to compare DewMarket with. */
final class PlainMarket {
    static final int NONE = -1;

    static final class Web {
        int place;
        int spun;
        int beads;
        boolean torn;
    }

    static final class Gatherer {
        int place;
        int bound;
        int thimble;
        int purse;
    }

    static final class Mourner {
        int place;
        int need;
        int pays;
        int dry;
        int wept;
    }

    /** What stands in the hedge; copied whole for undoing, the image and thoughts. */
    static final class Now {
        List<Web> webs = new ArrayList<>();
        List<Gatherer> gatherers = new ArrayList<>();
        List<Mourner> mourners = new ArrayList<>();
        Map<String, Integer> sky = new HashMap<>(Map.of("mist", 0, "sun", 0, "wind", 0));
        int lost;
        int minute;
        int state;
        List<int[]> book = new ArrayList<>();

        Now copy() {
            Now n = new Now();
            for (Web w : webs) {
                Web c = new Web();
                c.place = w.place;
                c.spun = w.spun;
                c.beads = w.beads;
                c.torn = w.torn;
                n.webs.add(c);
            }
            for (Gatherer g : gatherers) {
                Gatherer c = new Gatherer();
                c.place = g.place;
                c.bound = g.bound;
                c.thimble = g.thimble;
                c.purse = g.purse;
                n.gatherers.add(c);
            }
            for (Mourner m : mourners) {
                Mourner c = new Mourner();
                c.place = m.place;
                c.need = m.need;
                c.pays = m.pays;
                c.dry = m.dry;
                c.wept = m.wept;
                n.mourners.add(c);
            }
            n.sky = new HashMap<>(sky);
            n.lost = lost;
            n.minute = minute;
            n.state = state;
            n.book = new ArrayList<>(book);
            return n;
        }

        int torn() {
            int set = 0;
            for (int i = 0; i < webs.size(); i++) {
                set |= webs.get(i).torn ? 1 << i : 0;
            }
            return set;
        }
    }

    /** All words of THE LAW with their values for one WEB. */
    interface Sum extends ToIntFunction<Map<String, Integer>> {
    }

    interface So extends Predicate<Map<String, Integer>> {
    }

    record LawLine(String word, Sum sum, So so) {
    }

    /** A line of PATHS, SKY or NEAR as its words and numbers. */
    record Line(List<String> words, List<Integer> numbers) {
    }

    static final class Fault extends Exception {
        private static final long serialVersionUID = 1L;
        final int kind;
        final int place;

        Fault(int kind, int place) {
            this.kind = kind;
            this.place = place;
        }
    }

    private Now now = new Now();
    private List<LawLine> law = List.of();
    private List<Line> paths = List.of();
    private List<Line> sky = List.of();
    private List<Line> near = List.of();
    private List<int[]> threads = new ArrayList<>();
    private int[] square = new int[9];
    private TreeMap<Integer, Integer> marks = new TreeMap<>();
    private List<int[]> chords = new ArrayList<>();
    private List<int[]> stops = new ArrayList<>();
    private List<Integer> digits = new ArrayList<>();
    private List<Integer> signs = new ArrayList<>();
    private List<Integer> row = new ArrayList<>();
    private Set<Integer> holes = new HashSet<>();
    private final List<Integer> tape = new ArrayList<>();
    private int fault;
    private int faultPlace = NONE;
    private final Deque<Now> undoable = new ArrayDeque<>();
    private PlainMarket image;

    int state(int v) {
        int was = now.state;
        now.state = v;
        undoable.clear();
        return was;
    }

    int web(int place, int spun) {
        if (place < 0 || place > 19 || spun < 1 || spun > 30 || now.webs.size() == 12) {
            return NONE;
        }
        undoable.clear();
        Web w = new Web();
        w.place = place;
        w.spun = spun;
        now.webs.add(w);
        return now.webs.size() - 1;
    }

    int gatherer(int place) {
        if (place < 0 || place > 19 || now.gatherers.size() == 8) {
            return NONE;
        }
        undoable.clear();
        Gatherer g = new Gatherer();
        g.place = place;
        g.bound = place;
        now.gatherers.add(g);
        return now.gatherers.size() - 1;
    }

    int mourner(int place, int need, int pays) {
        if (place < 0 || place > 19 || need < 0 || need > 99 || pays < 1 || pays > 9 || now.mourners.size() == 10) {
            return NONE;
        }
        undoable.clear();
        Mourner m = new Mourner();
        m.place = place;
        m.need = need;
        m.pays = pays;
        now.mourners.add(m);
        return now.mourners.size() - 1;
    }

    private static <T> T pick(List<T> list, int i) {
        return i >= 0 && i < list.size() ? list.get(i) : null;
    }

    boolean set(int what, int who, int v) {
        if (v < 0) {
            return false;
        }
        if (what == 0) {
            Web w = pick(now.webs, who);
            if (w == null || w.torn || v > 3 * w.spun) {
                return false;
            }
            w.beads = v;
        } else if (what == 1) {
            Gatherer g = pick(now.gatherers, who);
            if (g == null || v > 40) {
                return false;
            }
            g.thimble = v;
        } else if (what == 2) {
            Mourner m = pick(now.mourners, who);
            if (m == null || v > 99) {
                return false;
            }
            m.need = v;
        } else if (what >= 3 && what <= 5 && v <= 9) {
            now.sky.put(List.of("mist", "sun", "wind").get(what - 3), v);
        } else {
            return false;
        }
        undoable.clear();
        return true;
    }

    private void remember(Now was) {
        undoable.addLast(was);
        if (undoable.size() > 6) {
            undoable.removeFirst();
        }
    }

    boolean act(int what, int who, int v) {
        Now was = now.copy();
        boolean done = false;
        Gatherer g = pick(now.gatherers, who);
        if (what == 0 && g != null && v >= 0 && v <= 19 && g.bound != v) {
            g.bound = v;
            done = true;
        } else if (what == 1 && g != null && v >= 1 && v <= 40) {
            done = take(now, who, v, false);
        } else if (what == 2 && g != null && pick(now.mourners, v) != null) {
            done = sell(now, who, v, Integer.MAX_VALUE, false);
        } else if (what == 3 && pick(now.webs, who) != null && now.webs.get(who).torn) {
            now.webs.get(who).torn = false;
            done = true;
        }
        if (done) {
            remember(was);
        }
        return done;
    }

    private void note(Now n, boolean thought, int... line) {
        if (!thought && n.book.size() < 150) {
            n.book.add(new int[] {n.minute, line[0], line[1], line[2]});
        }
    }

    private boolean take(Now n, int who, int most, boolean thought) {
        Gatherer g = n.gatherers.get(who);
        for (int i = 0; i < n.webs.size(); i++) {
            Web w = n.webs.get(i);
            if (w.place == g.place && !w.torn && w.beads > 0) {
                int many = Math.min(Math.min(most, w.beads), 40 - g.thimble);
                if (many == 0) {
                    return false;
                }
                w.beads -= many;
                g.thimble += many;
                note(n, thought, 0, who, many);
                int tears = tells(n, "tears", i);
                boolean torn = tears >= 500;
                if (!thought) {
                    torn = false;
                    if (tears > 0) {
                        n.state = n.state * 1664525 + 1013904223;
                        torn = Integer.toUnsignedLong(n.state) / 256 % 1000 < tears;
                    }
                }
                if (torn) {
                    shake(n, i, thought);
                }
                return true;
            }
        }
        return false;
    }

    private void shake(Now n, int i, boolean thought) {
        Web w = n.webs.get(i);
        note(n, thought, 1, i, w.beads);
        int before = 0;
        for (Web each : n.webs) {
            before += each.beads;
        }
        w.torn = true;
        List<Web> next = new ArrayList<>();
        for (int j : nearOf(i)) {
            if (!n.webs.get(j).torn) {
                next.add(n.webs.get(j));
            }
        }
        for (Web each : next) {
            each.beads = Math.min(3 * each.spun, each.beads + w.beads / 2 / next.size());
        }
        w.beads = 0;
        int behind = 0;
        for (Web each : n.webs) {
            behind += each.beads;
        }
        n.lost += before - behind;
    }

    private boolean sell(Now n, int who, int to, int most, boolean thought) {
        Gatherer g = n.gatherers.get(who);
        Mourner m = n.mourners.get(to);
        int many = Math.min(most, Math.min(g.thimble, m.need));
        if (g.place != m.place || many == 0) {
            return false;
        }
        for (int i = 0; i < many; i++) {
            g.thimble--;
            m.need--;
            m.wept++;
            g.purse += m.pays;
        }
        note(n, thought, 2, who, many);
        return true;
    }

    private TreeSet<Integer> nearOf(int web) {
        TreeSet<Integer> set = new TreeSet<>();
        for (Line line : near) {
            if (line.numbers.contains(web)) {
                set.addAll(line.numbers);
            }
        }
        set.remove(web);
        return set;
    }

    private int tells(Now n, String word, int web) {
        Web w = n.webs.get(web);
        Map<String, Integer> values = new HashMap<>(n.sky);
        values.put("beads", w.beads);
        values.put("spun", w.spun);
        values.put("place", w.place);
        values.put("near", nearOf(web).size());
        values.put("torn", Integer.bitCount(n.torn()));
        values.put("minute", n.minute);
        int v = word.equals("forms") ? n.sky.get("mist") : word.equals("dries") ? n.sky.get("sun") : 100 * n.sky.get("wind");
        for (LawLine line : law) {
            if (line.word.equals(word) && line.so.test(values)) {
                v = line.sum.applyAsInt(values);
                break;
            }
        }
        int most = word.equals("tears") ? 1000 : 20;
        return v < 0 ? 0 : v > most ? most : v;
    }

    private void pass(Now n, boolean thought) {
        for (Line line : sky) {
            if (line.numbers.get(0) == n.minute) {
                if (line.words.get(1).equals("spin")) {
                    n.webs.get(line.numbers.get(1)).torn = false;
                } else {
                    n.sky.put(line.words.get(1), line.numbers.get(1));
                }
            }
        }
        for (int i = 0; i < n.webs.size(); i++) {
            Web w = n.webs.get(i);
            if (!w.torn) {
                w.beads = Math.min(3 * w.spun, w.beads + tells(n, "forms", i));
                int left = Math.max(0, w.beads - tells(n, "dries", i));
                n.lost += w.beads - left;
                w.beads = left;
            }
        }
        for (Line line : paths) {
            if (line.numbers.get(0) == n.minute) {
                int who = line.numbers.get(1);
                int a = line.numbers.get(2);
                switch (line.words.get(2)) {
                    case "go" -> n.gatherers.get(who).bound = a;
                    case "take" -> take(n, who, a, thought);
                    default -> sell(n, who, a, line.numbers.get(3), thought);
                }
            }
        }
        for (Gatherer g : n.gatherers) {
            if (g.bound > g.place) {
                g.place++;
            } else if (g.bound < g.place) {
                g.place--;
            }
        }
        for (Mourner m : n.mourners) {
            if (m.need > 0) {
                m.dry++;
            }
        }
        n.minute++;
    }

    int minutes(int n) {
        if (n < 1 || n > 60 || now.minute + n > 9999) {
            return NONE;
        }
        int wept = 0;
        for (Mourner m : now.mourners) {
            wept -= m.wept;
        }
        for (int i = 0; i < n; i++) {
            remember(now.copy());
            pass(now, false);
        }
        for (Mourner m : now.mourners) {
            wept += m.wept;
        }
        return wept;
    }

    int feed(int... five) {
        if (tape.size() > 380) {
            return NONE;
        }
        for (int v : five) {
            for (byte b : java.nio.ByteBuffer.allocate(4).putInt(v).array()) {
                tape.add(b & 255);
            }
        }
        return tape.size();
    }

    boolean end(int n) {
        if (n < 0 || n > tape.size()) {
            return false;
        }
        tape.subList(n, tape.size()).clear();
        return true;
    }

    int text(int k) {
        StringBuilder told = new StringBuilder();
        for (int b : tape) {
            told.append((char) b);
        }
        tape.clear();
        fault = 0;
        faultPlace = NONE;
        if (k < 0 || k > 3) {
            return NONE;
        }
        PlainReader reader = new PlainReader(told.toString(), now.webs.size(), now.gatherers.size(), now.mourners.size());
        try {
            if (k == 0) {
                law = reader.readLaw();
                return law.size();
            }
            List<Line> lines = reader.readLines(k);
            if (k == 1) {
                paths = lines;
                undoable.clear();
            } else if (k == 2) {
                sky = lines;
                undoable.clear();
            } else {
                near = lines;
            }
            return lines.size();
        } catch (Fault f) {
            fault = f.kind;
            faultPlace = f.place;
            return NONE;
        }
    }

    int fault(int what) {
        return what == 0 ? fault : what == 1 ? faultPlace : NONE;
    }

    int of(int web, int what) {
        Web w = pick(now.webs, web);
        if (w == null) {
            return NONE;
        }
        int set = 0;
        for (int i : nearOf(web)) {
            set |= 1 << i;
        }
        return switch (what) {
            case 0 -> w.place;
            case 1 -> w.spun;
            case 2 -> w.beads;
            case 3 -> w.torn ? 1 : 0;
            case 4 -> tells(now, "forms", web);
            case 5 -> tells(now, "dries", web);
            case 6 -> tells(now, "tears", web);
            case 7 -> set;
            default -> NONE;
        };
    }

    int who(int gatherer, int what) {
        Gatherer g = pick(now.gatherers, gatherer);
        if (g == null) {
            return NONE;
        }
        return switch (what) {
            case 0 -> g.place;
            case 1 -> g.bound;
            case 2 -> g.thimble;
            case 3 -> g.purse;
            default -> NONE;
        };
    }

    int weeper(int mourner, int what) {
        Mourner m = pick(now.mourners, mourner);
        if (m == null) {
            return NONE;
        }
        return switch (what) {
            case 0 -> m.place;
            case 1 -> m.need;
            case 2 -> m.pays;
            case 3 -> m.dry;
            case 4 -> m.wept;
            default -> NONE;
        };
    }

    int book(int i, int what) {
        int[] line = pick(now.book, i);
        return line == null || what < 0 || what > 3 ? NONE : line[what];
    }

    int goes(int n, int what) {
        if (n < 1 || n > 60) {
            return NONE;
        }
        Now then = now.copy();
        for (int i = 0; i < n; i++) {
            pass(then, true);
        }
        return switch (what) {
            case 0 -> then.webs.stream().mapToInt(w -> w.beads).sum();
            case 1 -> then.mourners.stream().mapToInt(m -> m.wept).sum();
            case 2 -> then.gatherers.stream().mapToInt(g -> g.purse).sum();
            case 3 -> then.lost;
            default -> NONE;
        };
    }

    int weeps(int mourner) {
        Now then = now.copy();
        if (pick(then.mourners, mourner) == null) {
            return NONE;
        }
        int gone = 0;
        while (then.mourners.get(mourner).need > 0) {
            if (gone == 60) {
                return NONE;
            }
            pass(then, true);
            gone++;
        }
        return gone;
    }

    int claims(int place) {
        if (place < 0 || place > 19) {
            return NONE;
        }
        return now.webs.stream().filter(w -> w.place == place && !w.torn).mapToInt(w -> w.beads).sum();
    }

    int thread(int a, int b) {
        if (a == NONE) {
            threads.clear();
            return 0;
        }
        if (a < 0 || a > 5 || b < 0 || b > 5 || a == b || threads.size() == 12) {
            return NONE;
        }
        threads.add(new int[] {a, b});
        return threads.size();
    }

    /** By trying all fives and flooding from knot 0. */
    int hangs() {
        int ways = 0;
        for (int set = 0; set < 1 << threads.size(); set++) {
            if (Integer.bitCount(set) == 5) {
                int reached = 1;
                for (int again = 0; again < 5; again++) {
                    for (int i = 0; i < threads.size(); i++) {
                        int ends = 1 << threads.get(i)[0] | 1 << threads.get(i)[1];
                        if ((set >> i & 1) == 1 && (reached & ends) != 0) {
                            reached |= ends;
                        }
                    }
                }
                ways += reached == 63 ? 1 : 0;
            }
        }
        return ways;
    }

    boolean cell(int place, int v) {
        if (place < 0 || place > 8 || v < -9 || v > 9) {
            return false;
        }
        square[place] = v;
        return true;
    }

    /** By the rule of Sarrus. */
    int determinant() {
        int sum = 0;
        for (int i = 0; i < 3; i++) {
            sum += square[i] * square[3 + (i + 1) % 3] * square[6 + (i + 2) % 3];
            sum -= square[i] * square[3 + (i + 2) % 3] * square[6 + (i + 1) % 3];
        }
        return sum;
    }

    int mark(int x, int y) {
        if (x == NONE) {
            marks.clear();
            return 0;
        }
        if (x < 0 || x > 99 || y < -99 || y > 99 || marks.containsKey(x) || marks.size() == 8) {
            return NONE;
        }
        marks.put(x, y);
        return marks.size();
    }

    int marks(int x, int what) {
        if (x < 0 || x > 99 || what < 0 || what > 1) {
            return -100;
        }
        Map.Entry<Integer, Integer> a = marks.floorEntry(x);
        Map.Entry<Integer, Integer> b = marks.ceilingEntry(x);
        if (a == null || b == null) {
            return 0;
        }
        for (int below = 1; below <= 99; below++) {
            // above / below = a + (b - a) * (x - ax) / (bx - ax), the least below that comes out even
            int span = Math.max(1, b.getKey() - a.getKey());
            int top = below * (a.getValue() * span + (b.getValue() - a.getValue()) * (x - a.getKey()));
            if (top % span == 0) {
                return what == 0 ? top / span : below;
            }
        }
        throw new IllegalStateException("no fraction");
    }

    int chord(int a, int b) {
        if (a == NONE) {
            chords.clear();
            return 0;
        }
        if (a < 0 || a > 11 || b < 0 || b > 11 || a == b) {
            return NONE;
        }
        for (int[] c : chords) {
            if (c[0] == a || c[1] == a || c[0] == b || c[1] == b) {
                return NONE;
            }
        }
        chords.add(new int[] {a, b});
        return chords.size();
    }

    /** Going round from one end of the one: the other's ends are met one before and one behind its other end. */
    private static boolean cross(int[] c, int[] d) {
        int met = 0;
        for (int at = (c[0] + 1) % 12; at != c[1]; at = (at + 1) % 12) {
            met += at == d[0] || at == d[1] ? 1 : 0;
        }
        return met == 1;
    }

    int chords(int what) {
        int couples = 0;
        int most = 0;
        for (int set = 0; set < 1 << chords.size(); set++) {
            int crossing = 0;
            for (int i = 0; i < chords.size(); i++) {
                for (int j = 0; j < i; j++) {
                    if ((set >> i & set >> j & 1) == 1 && cross(chords.get(i), chords.get(j))) {
                        crossing++;
                    }
                }
            }
            couples = Math.max(couples, crossing);
            if (crossing == 0) {
                most = Math.max(most, Integer.bitCount(set));
            }
        }
        return what == 0 ? couples : what == 1 ? most : NONE;
    }

    int stop(int x, int y) {
        if (x == NONE) {
            stops.clear();
            return 0;
        }
        if (x < 0 || x > 20 || y < 0 || y > 20 || stops.size() == 7) {
            return NONE;
        }
        stops.add(new int[] {x, y});
        return stops.size();
    }

    int round(int what) {
        if (what < 0 || what > 1) {
            return NONE;
        }
        if (stops.size() < 2) {
            return 0;
        }
        int best = Integer.MAX_VALUE;
        int order = 0;
        int least = 0;
        int greatest = 0;
        for (int i = 1; i < stops.size(); i++) {
            least = least * 10 + i;
            greatest = greatest * 10 + stops.size() - i;
        }
        for (int number = least; number <= greatest; number++) {
            String way = String.valueOf(number);
            boolean all = true;
            for (int i = 1; i < stops.size(); i++) {
                all &= way.indexOf('0' + i) >= 0;
            }
            if (all) {
                String full = "0" + way + "0";
                int steps = 0;
                for (int i = 1; i < full.length(); i++) {
                    int[] a = stops.get(full.charAt(i - 1) - '0');
                    int[] b = stops.get(full.charAt(i) - '0');
                    steps += Math.abs(a[0] - b[0]) + Math.abs(a[1] - b[1]);
                }
                if (steps < best) {
                    best = steps;
                    order = number;
                }
            }
        }
        return what == 0 ? best : order;
    }

    int ones(int n, int k) {
        if (n < 0 || n > 9999 || k < -1 || k > 14) {
            return NONE;
        }
        int found = 0;
        for (int i = 0; i <= n; i++) {
            if (k == -1) {
                found += Integer.bitCount(i);
            } else if (Integer.bitCount(i) == k) {
                found++;
            }
        }
        return found;
    }

    private static int tellOne(List<Integer> list, int v, int most, int limit) {
        if (v == NONE) {
            list.clear();
            return 0;
        }
        if (v < 0 || v > most || list.size() == limit) {
            return NONE;
        }
        list.add(v);
        return list.size();
    }

    int digit(int v) {
        return tellOne(digits, v, 9, 8);
    }

    private static void orders(String done, List<Integer> left, TreeSet<String> all) {
        if (left.isEmpty()) {
            all.add(done);
        }
        for (int i = 0; i < left.size(); i++) {
            if (left.indexOf(left.get(i)) == i) {
                List<Integer> rest = new ArrayList<>(left);
                rest.remove(i);
                orders(done + left.get(i), rest, all);
            }
        }
    }

    int order(int what) {
        TreeSet<String> all = new TreeSet<>();
        orders("", digits, all);
        StringBuilder told = new StringBuilder();
        for (int d : digits) {
            told.append(d);
        }
        String next = all.higher(told.toString());
        return switch (what) {
            case 0 -> next == null ? NONE : Integer.parseInt(next);
            case 1 -> all.headSet(told.toString()).size();
            case 2 -> all.size();
            default -> NONE;
        };
    }

    int sign(int v) {
        return tellOne(signs, v, 14, 12);
    }

    int stack(int what) {
        Deque<Integer> pile = new ArrayDeque<>();
        int stuck = NONE;
        for (int i = 0; i < signs.size(); i++) {
            int s = signs.get(i);
            if (s >= 10 && pile.size() < (s == 13 ? 1 : 2)) {
                stuck = i;
                break;
            }
            if (s <= 9) {
                pile.push(s);
            } else if (s == 13) {
                pile.push(pile.peek());
            } else {
                int high = pile.pop();
                int low = pile.pop();
                if (s == 14) {
                    pile.push(high);
                    pile.push(low);
                } else {
                    pile.push(s == 10 ? low + high : s == 11 ? low - high : low * high);
                }
            }
        }
        return switch (what) {
            case 0 -> pile.isEmpty() ? 0 : pile.peek();
            case 1 -> pile.size();
            case 2 -> stuck;
            default -> -100;
        };
    }

    /** The one set of bits without neighbours that comes to n. */
    int strung(int n, int what) {
        if (n < 0 || n > 9999 || what < 0 || what > 1) {
            return NONE;
        }
        int bits = strungFrom(n, 18);
        return what == 0 ? bits : Integer.bitCount(bits);
    }

    private static int strungFrom(int n, int highest) {
        if (n == 0) {
            return 0;
        }
        for (int i = highest; i >= 0; i--) {
            int a = 1;
            int b = 2;
            for (int j = 0; j < i; j++) {
                int c = a + b;
                a = b;
                b = c;
            }
            int rest = a <= n ? strungFrom(n - a, i - 2) : NONE;
            if (rest != NONE) {
                return rest | 1 << i;
            }
        }
        return NONE;
    }

    int run(int v) {
        return tellOne(row, v, 9, 12);
    }

    int runs(int what) {
        int longest = 0;
        int come = 0;
        for (int from = 0; from < row.size(); from++) {
            for (int to = from + 1; to <= row.size(); to++) {
                List<Integer> part = row.subList(from, to);
                if (new HashSet<>(part).size() == part.size()) {
                    longest = Math.max(longest, part.size());
                }
                come += part.stream().mapToInt(v -> v).sum() == what - 100 ? 1 : 0;
            }
        }
        if (what == 0) {
            return longest;
        }
        if (what == 1) {
            int[] times = new int[10];
            row.forEach(v -> times[v]++);
            int best = Arrays.stream(times).max().getAsInt();
            for (int v = 0; v < 10 && best > 0; v++) {
                if (times[v] == best) {
                    return v;
                }
            }
            return NONE;
        }
        return what >= 100 && what <= 208 ? come : NONE;
    }

    boolean hole(int x, int y, boolean open) {
        if (x < 0 || x > 5 || y < 0 || y > 5) {
            return false;
        }
        if (open) {
            holes.add(y * 6 + x);
        } else {
            holes.remove(y * 6 + x);
        }
        return true;
    }

    /** By letting costs sink until nothing changes. */
    int leaks(int what) {
        int[][] cost = new int[6][6];
        for (int[] each : cost) {
            Arrays.fill(each, 99);
        }
        boolean changed = true;
        while (changed) {
            changed = false;
            for (int y = 0; y < 6; y++) {
                for (int x = 0; x < 6; x++) {
                    int least = y == 0 ? 0 : cost[y - 1][x];
                    least = y < 5 ? Math.min(least, cost[y + 1][x]) : least;
                    least = x > 0 ? Math.min(least, cost[y][x - 1]) : least;
                    least = x < 5 ? Math.min(least, cost[y][x + 1]) : least;
                    least += holes.contains(y * 6 + x) ? 0 : 1;
                    if (least < cost[y][x]) {
                        cost[y][x] = least;
                        changed = true;
                    }
                }
            }
        }
        int best = Arrays.stream(cost[5]).min().getAsInt();
        return what == 0 ? best == 0 ? 1 : 0 : what == 1 ? best : NONE;
    }

    /** Bead by bead, by what colour the first and the latest have: 0 the latest is as the first, 1 it is not. */
    int colours(int n, int k, int what) {
        if (n < 1 || n > 40 || k < 1 || k > 9 || what < 0 || what > 1) {
            return NONE;
        }
        long[] ways = new long[k];
        ways[0] = 1;
        for (int i = 1; i < n; i++) {
            long[] next = new long[k];
            for (int a = 0; a < k; a++) {
                for (int b = 0; b < k; b++) {
                    if (a != b) {
                        next[b] = (next[b] + ways[a]) % 1000000007L;
                    }
                }
            }
            ways = next;
        }
        long sum = 0;
        for (int a = what == 1 && n > 1 ? 1 : 0; a < k; a++) {
            sum += ways[a];
        }
        return (int) (sum * k % 1000000007L);
    }

    int game(int w, int h, int full) {
        if (w < 1 || w > 4 || h < 1 || h > 4 || full < 0 || full >= 1 << w * h) {
            return NONE;
        }
        return winning(w, h, full, new HashMap<>());
    }

    private static int winning(int w, int h, int full, Map<Integer, Integer> known) {
        Integer found = known.get(full);
        if (found != null) {
            return found;
        }
        int best = NONE;
        for (int place = w * h - 1; place >= 0; place--) {
            int y = place / w;
            int x = place % w;
            if (y + 1 < h) {
                int two = 1 << place | 1 << place + w;
                if ((full & two) == 0 && winning(w, h, full | two, known) == NONE) {
                    best = place * 2 + 1;
                }
            }
            if (x + 1 < w) {
                int two = 3 << place;
                if ((full & two) == 0 && winning(w, h, full | two, known) == NONE) {
                    best = place * 2;
                }
            }
        }
        known.put(full, best);
        return best;
    }

    boolean undo() {
        if (undoable.isEmpty()) {
            return false;
        }
        now = undoable.removeLast();
        return true;
    }

    private void takeOver(PlainMarket other) {
        now = other.now.copy();
        law = other.law;
        paths = other.paths;
        sky = other.sky;
        near = other.near;
        threads = new ArrayList<>(other.threads);
        square = other.square.clone();
        marks = new TreeMap<>(other.marks);
        chords = new ArrayList<>(other.chords);
        stops = new ArrayList<>(other.stops);
        digits = new ArrayList<>(other.digits);
        signs = new ArrayList<>(other.signs);
        row = new ArrayList<>(other.row);
        holes = new HashSet<>(other.holes);
    }

    boolean image(boolean taken) {
        if (taken) {
            image = new PlainMarket();
            image.takeOver(this);
            return true;
        }
        if (image == null) {
            return false;
        }
        takeOver(image);
        undoable.clear();
        return true;
    }

    int look(int what) {
        return switch (what) {
            case 0 -> now.webs.size();
            case 1 -> now.gatherers.size();
            case 2 -> now.mourners.size();
            case 3 -> now.torn();
            case 4 -> now.sky.get("mist");
            case 5 -> now.sky.get("sun");
            case 6 -> now.sky.get("wind");
            case 7 -> now.lost;
            case 8 -> now.minute;
            case 9 -> now.book.size();
            case 10 -> now.state;
            case 11 -> law.size();
            case 12 -> paths.size();
            case 13 -> sky.size();
            case 14 -> near.size();
            case 15 -> undoable.size();
            default -> -100000;
        };
    }
}
