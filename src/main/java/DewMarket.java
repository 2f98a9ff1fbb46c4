/**
 * A hedge with webs, gatherers and mourners, the texts that rule it, and the sums that are done in thought.
 *
 * All rows are made with the object and used again, so that no later call makes anything new.
 */
public final class DewMarket {
    public static final int NONE = -1;

    private static final int LAST_PLACE = 19;
    private static final int MOST_SPUN = 30;
    private static final int MOST_THIMBLE = 40;
    private static final int MOST_NEED = 99;
    private static final int MOST_PAYS = 9;
    private static final int MOST_SKY = 9;
    private static final int MOST_MINUTES = 60;
    private static final int LAST_MINUTE = 9999;
    private static final int BOOK_LINES = 150;
    private static final int TAPE_BYTES = 400;
    private static final int FEED_BYTES = 20;
    private static final int LAST_ROW_SUM = 108;

    /** Columns of a WEB, as of() numbers them. */
    private static final int PLACE = 0;
    private static final int SPUN = 1;
    private static final int BEADS = 2;
    private static final int TORN = 3;
    /** Columns of a GATHERER, as who() numbers them; PLACE is the first of these, too. */
    private static final int BOUND = 1;
    private static final int THIMBLE = 2;
    private static final int PURSE = 3;
    /** Columns of a MOURNER, as weeper() numbers them; PLACE is the first of these, too. */
    private static final int NEED = 1;
    private static final int PAYS = 2;
    private static final int DRY = 3;
    private static final int WEPT = 4;

    /** The TEXTS, as text() numbers them. */
    private static final int LAW = 0;
    private static final int PATHS = 1;
    private static final int SKY = 2;
    private static final int NEAR = 3;

    private final Hedge hedge = new Hedge();
    private final Rows ledger = new Rows(BOOK_LINES, 4);
    private final Texts texts = new Texts();
    private final Told told = new Told();
    private final Rows tape = new Rows(TAPE_BYTES, 1);
    private final Reader reader = new Reader(tape, hedge);
    private final Trade trade = new Trade(hedge, texts, ledger, false);
    private final Hedge dream = new Hedge();
    /** In thought no line is written: a book without room for any. */
    private final Trade dreaming = new Trade(dream, texts, new Rows(0, 4), true);
    private final Undoing undoing = new Undoing();
    private final Image kept = new Image();
    private final Laying laying = new Laying();

    public DewMarket() {
    }

    public int state(int v) {
        int was = hedge.state;
        hedge.state = v;
        undoing.forget();
        return was;
    }

    public int web(int place, int spun) {
        if (!within(place, 0, LAST_PLACE) || !within(spun, 1, MOST_SPUN) || hedge.webs.isFull()) {
            return NONE;
        }
        undoing.forget();
        return hedge.webs.add(place, spun, 0, 0, 0);
    }

    public int gatherer(int place) {
        if (!within(place, 0, LAST_PLACE) || hedge.gatherers.isFull()) {
            return NONE;
        }
        undoing.forget();
        return hedge.gatherers.add(place, place, 0, 0, 0);
    }

    public int mourner(int place, int need, int pays) {
        boolean can = within(place, 0, LAST_PLACE) && within(need, 0, MOST_NEED) && within(pays, 1, MOST_PAYS);
        if (!can || hedge.mourners.isFull()) {
            return NONE;
        }
        undoing.forget();
        return hedge.mourners.add(place, need, pays, 0, 0);
    }

    public boolean set(int what, int who, int v) {
        if (!hedge.maySet(what, who, v)) {
            return false;
        }
        undoing.forget();
        hedge.setTo(what, who, v);
        return true;
    }

    public boolean act(int what, int who, int v) {
        if (!trade.mayDo(what, who, v)) {
            return false;
        }
        undoing.keep(hedge, ledger.count);
        trade.doByHand(what, who, v);
        return true;
    }

    public int minutes(int n) {
        if (!within(n, 1, MOST_MINUTES) || hedge.minute + n > LAST_MINUTE) {
            return NONE;
        }
        int before = hedge.mourners.total(WEPT);
        for (int i = 0; i < n; i++) {
            undoing.keep(hedge, ledger.count);
            trade.passMinute();
        }
        return hedge.mourners.total(WEPT) - before;
    }

    public int feed(int a, int b, int c, int d, int e) {
        if (tape.count + FEED_BYTES > TAPE_BYTES) {
            return NONE;
        }
        addBytes(a);
        addBytes(b);
        addBytes(c);
        addBytes(d);
        addBytes(e);
        return tape.count;
    }

    private void addBytes(int four) {
        for (int shift = 24; shift >= 0; shift -= 8) {
            tape.add(four >>> shift & 255, 0, 0, 0, 0);
        }
    }

    public boolean end(int n) {
        if (!within(n, 0, tape.count)) {
            return false;
        }
        tape.cut(n);
        return true;
    }

    public int text(int k) {
        int lines = reader.read(k);
        tape.cut(0);
        if (lines == NONE) {
            return NONE;
        }
        texts.adopt(k, reader.draft);
        if (k == PATHS || k == SKY) {
            undoing.forget();
        }
        return lines;
    }

    public int fault(int what) {
        if (what == 0) {
            return reader.fault;
        }
        return what == 1 ? reader.faultPlace : NONE;
    }

    public int of(int web, int what) {
        if (!hedge.webs.has(web) || !within(what, 0, 7)) {
            return NONE;
        }
        if (what <= TORN) {
            return hedge.webs.get(web, what);
        }
        return what == 7 ? texts.nearOf(web) : trade.tells(what - 4, web);
    }

    public int who(int gatherer, int what) {
        if (!hedge.gatherers.has(gatherer) || !within(what, 0, PURSE)) {
            return NONE;
        }
        return hedge.gatherers.get(gatherer, what);
    }

    public int weeper(int mourner, int what) {
        if (!hedge.mourners.has(mourner) || !within(what, 0, WEPT)) {
            return NONE;
        }
        return hedge.mourners.get(mourner, what);
    }

    public int book(int i, int what) {
        if (!ledger.has(i) || !within(what, 0, 3)) {
            return NONE;
        }
        return ledger.get(i, what);
    }

    public int goes(int n, int what) {
        if (!within(n, 1, MOST_MINUTES) || !within(what, 0, 3)) {
            return NONE;
        }
        dream.copyFrom(hedge);
        for (int i = 0; i < n; i++) {
            dreaming.passMinute();
        }
        if (what == 0) {
            return dream.webs.total(BEADS);
        }
        if (what == 1) {
            return dream.mourners.total(WEPT);
        }
        return what == 2 ? dream.gatherers.total(PURSE) : dream.lost;
    }

    public int weeps(int mourner) {
        if (!hedge.mourners.has(mourner)) {
            return NONE;
        }
        dream.copyFrom(hedge);
        for (int gone = 0; gone < MOST_MINUTES; gone++) {
            if (dream.mourners.get(mourner, NEED) == 0) {
                return gone;
            }
            dreaming.passMinute();
        }
        return dream.mourners.get(mourner, NEED) == 0 ? MOST_MINUTES : NONE;
    }

    public int claims(int place) {
        return within(place, 0, LAST_PLACE) ? hedge.beadsAt(place) : NONE;
    }

    public int thread(int a, int b) {
        if (a == NONE) {
            return told.threads.cut(0);
        }
        if (!within(a, 0, 5) || !within(b, 0, 5) || a == b) {
            return NONE;
        }
        return told.threads.addCounted(a, b);
    }

    public int hangs() {
        return told.waysToHang();
    }

    public boolean cell(int place, int v) {
        if (!within(place, 0, 8) || !within(v, -9, 9)) {
            return false;
        }
        told.square[place] = v;
        return true;
    }

    public int determinant() {
        return told.squareDeterminant();
    }

    public int mark(int x, int y) {
        if (x == NONE) {
            return told.marked.cut(0);
        }
        if (!within(x, 0, 99) || !within(y, -99, 99) || told.marked.find(0, x) != NONE) {
            return NONE;
        }
        return told.marked.addCounted(x, y);
    }

    public int marks(int x, int what) {
        if (!within(x, 0, 99) || !within(what, 0, 1)) {
            return NONE - 99;
        }
        return told.between(x, what == 0);
    }

    public int chord(int a, int b) {
        if (a == NONE) {
            return told.strings.cut(0);
        }
        if (!within(a, 0, 11) || !within(b, 0, 11) || a == b || told.hasStringAt(a) || told.hasStringAt(b)) {
            return NONE;
        }
        return told.strings.addCounted(a, b);
    }

    public int chords(int what) {
        if (what == 0) {
            return told.crossings();
        }
        return what == 1 ? told.mostUncrossed() : NONE;
    }

    public int stop(int x, int y) {
        if (x == NONE) {
            return told.stops.cut(0);
        }
        if (!within(x, 0, 20) || !within(y, 0, 20)) {
            return NONE;
        }
        return told.stops.addCounted(x, y);
    }

    public int round(int what) {
        if (what == 0) {
            return told.roundSteps();
        }
        return what == 1 ? told.roundOrder() : NONE;
    }

    public int ones(int n, int k) {
        if (!within(n, 0, LAST_MINUTE) || !within(k, NONE, 14)) {
            return NONE;
        }
        return k == NONE ? Numbers.allOnes(n) : Numbers.withOnes(n, k);
    }

    public int digit(int v) {
        if (v == NONE) {
            return told.digits.cut(0);
        }
        return within(v, 0, 9) ? told.digits.addCounted(v, 0) : NONE;
    }

    public int order(int what) {
        if (what == 0) {
            return told.nextOrder();
        }
        if (what == 1) {
            return told.whichOrder();
        }
        return what == 2 ? told.allOrders() : NONE;
    }

    public int sign(int v) {
        if (v == NONE) {
            return told.signs.cut(0);
        }
        return within(v, 0, 14) ? told.signs.addCounted(v, 0) : NONE;
    }

    public int stack(int what) {
        return within(what, 0, 2) ? told.stacked(what) : NONE - 99;
    }

    public int strung(int n, int what) {
        if (!within(n, 0, LAST_MINUTE) || !within(what, 0, 1)) {
            return NONE;
        }
        int bits = Numbers.strungBits(n);
        return what == 0 ? bits : Integer.bitCount(bits);
    }

    public int run(int v) {
        if (v == NONE) {
            return told.row.cut(0);
        }
        return within(v, 0, 9) ? told.row.addCounted(v, 0) : NONE;
    }

    public int runs(int what) {
        if (what == 0) {
            return told.longestUnlike();
        }
        if (what == 1) {
            return told.mostOften();
        }
        return within(what, 100, 100 + LAST_ROW_SUM) ? told.runsOf(what - 100) : NONE;
    }

    public boolean hole(int x, int y, boolean open) {
        if (!within(x, 0, 5) || !within(y, 0, 5)) {
            return false;
        }
        long place = 1L << y * 6 + x;
        told.open = open ? told.open | place : told.open & ~place;
        return true;
    }

    public int leaks(int what) {
        if (what == 0) {
            return told.fewestToOpen() == 0 ? 1 : 0;
        }
        return what == 1 ? told.fewestToOpen() : NONE;
    }

    public int colours(int n, int k, int what) {
        if (!within(n, 1, 40) || !within(k, 1, 9) || !within(what, 0, 1)) {
            return NONE;
        }
        return what == 0 ? Numbers.rowColourings(n, k) : Numbers.ringColourings(n, k);
    }

    public int game(int w, int h, int full) {
        if (!within(w, 1, 4) || !within(h, 1, 4) || full >>> w * h != 0) {
            return NONE;
        }
        return laying.winningStart(w, h, full);
    }

    public boolean undo() {
        if (undoing.count == 0) {
            return false;
        }
        ledger.cut(undoing.goBack(hedge));
        return true;
    }

    public boolean image(boolean taken) {
        if (taken) {
            kept.take(hedge, ledger, texts, told);
            return true;
        }
        if (!kept.taken) {
            return false;
        }
        kept.giveBack(hedge, ledger, texts, told);
        undoing.forget();
        return true;
    }

    public int look(int what) {
        switch (what) {
            case 0: return hedge.webs.count;
            case 1: return hedge.gatherers.count;
            case 2: return hedge.mourners.count;
            case 3: return hedge.tornSet();
            case 4: return hedge.mist;
            case 5: return hedge.sun;
            case 6: return hedge.wind;
            case 7: return hedge.lost;
            case 8: return hedge.minute;
            case 9: return ledger.count;
            case 10: return hedge.state;
            case 11: return texts.law.lines.count;
            case 12: return texts.paths.count;
            case 13: return texts.sky.count;
            case 14: return texts.near.count;
            case 15: return undoing.count;
            default: return NONE - 99999;
        }
    }

    private static boolean within(int v, int low, int high) {
        return v >= low && v <= high;
    }

    /** A place outside reads 0. */
    private static int cellOf(int[] row, int i) {
        return i >= 0 && i < row.length ? row[i] : 0;
    }

    /** Up to so many rows of so many numbers; a place outside reads 0 and takes nothing. */
    private static final class Rows {
        final int limit;
        final int width;
        final int[] cells;
        int count;

        Rows(int limit, int width) {
            this.limit = Math.max(0, limit);
            this.width = Math.max(1, width);
            this.cells = new int[this.limit * this.width];
        }

        boolean isFull() {
            return count >= limit;
        }

        boolean has(int row) {
            return row >= 0 && row < count;
        }

        int get(int row, int column) {
            if (row < 0 || row >= count || column < 0 || column >= width) {
                return 0;
            }
            int at = row * width + column;
            return at < cells.length ? cells[at] : 0;
        }

        void put(int row, int column, int v) {
            if (row < 0 || row >= count || column < 0 || column >= width) {
                return;
            }
            int at = row * width + column;
            if (at < cells.length) {
                cells[at] = v;
            }
        }

        void change(int row, int column, int by) {
            put(row, column, get(row, column) + by);
        }

        /** Takes as many of the five as a row is wide; answers the new row's number, NONE if there is no room. */
        int add(int a, int b, int c, int d, int e) {
            int at = count * width;
            if (count >= limit || at + width > cells.length) {
                return NONE;
            }
            cells[at] = a;
            if (width > 1) {
                cells[at + 1] = b;
            }
            if (width > 2) {
                cells[at + 2] = c;
            }
            if (width > 3) {
                cells[at + 3] = d;
            }
            if (width > 4) {
                cells[at + 4] = e;
            }
            count++;
            return count - 1;
        }

        /** How many rows there are then; NONE if there is no room. */
        int addCounted(int a, int b) {
            return add(a, b, 0, 0, 0) == NONE ? NONE : count;
        }

        int cut(int rows) {
            if (rows >= 0 && rows < count) {
                count = rows;
            }
            return count;
        }

        int find(int column, int v) {
            for (int row = 0; row < count; row++) {
                if (get(row, column) == v) {
                    return row;
                }
            }
            return NONE;
        }

        /** How many rows from this one on have it. */
        int countOf(int column, int v, int from) {
            int found = 0;
            for (int row = Math.max(0, from); row < count; row++) {
                if (get(row, column) == v) {
                    found++;
                }
            }
            return found;
        }

        int total(int column) {
            int sum = 0;
            for (int row = 0; row < count; row++) {
                sum += get(row, column);
            }
            return sum;
        }

        void copyFrom(Rows other) {
            if (other.width == width && other.count <= limit) {
                count = other.count;
                System.arraycopy(other.cells, 0, cells, 0, count * width);
            }
        }
    }

    /** What is on and along the hedge: all that a MINUTE can change but THE BOOK. */
    private static final class Hedge {
        final Rows webs = new Rows(12, 4);
        final Rows gatherers = new Rows(8, 4);
        final Rows mourners = new Rows(10, 5);
        int mist;
        int sun;
        int wind;
        int lost;
        int minute;
        int state;

        void copyFrom(Hedge other) {
            webs.copyFrom(other.webs);
            gatherers.copyFrom(other.gatherers);
            mourners.copyFrom(other.mourners);
            mist = other.mist;
            sun = other.sun;
            wind = other.wind;
            lost = other.lost;
            minute = other.minute;
            state = other.state;
        }

        int drawOf(int m) {
            state = 1664525 * state + 1013904223;
            return m > 0 ? (state >>> 8) % m : 0;
        }

        boolean isTorn(int web) {
            return webs.get(web, TORN) != 0;
        }

        int mostBeads(int web) {
            return 3 * webs.get(web, SPUN);
        }

        int tornSet() {
            int set = 0;
            for (int web = 0; web < webs.count; web++) {
                if (webs.get(web, TORN) != 0) {
                    set |= 1 << web;
                }
            }
            return set;
        }

        int beadsAt(int place) {
            int beads = 0;
            for (int web = 0; web < webs.count; web++) {
                if (webs.get(web, PLACE) == place && !isTorn(web)) {
                    beads += webs.get(web, BEADS);
                }
            }
            return beads;
        }

        /** The least WEB there from which beads can be taken. */
        int webToTakeFrom(int place) {
            for (int web = 0; web < webs.count; web++) {
                if (webs.get(web, PLACE) == place && !isTorn(web) && webs.get(web, BEADS) > 0) {
                    return web;
                }
            }
            return NONE;
        }

        /** Beads come to a WEB as far as there is room; how many did. */
        int addBeads(int web, int beads) {
            int come = Math.max(0, Math.min(beads, mostBeads(web) - webs.get(web, BEADS)));
            webs.change(web, BEADS, come);
            return come;
        }

        boolean maySet(int what, int who, int v) {
            switch (what) {
                case 0: return webs.has(who) && !isTorn(who) && within(v, 0, mostBeads(who));
                case 1: return gatherers.has(who) && within(v, 0, MOST_THIMBLE);
                case 2: return mourners.has(who) && within(v, 0, MOST_NEED);
                default: return within(what, 3, 5) && within(v, 0, MOST_SKY);
            }
        }

        void setTo(int what, int who, int v) {
            switch (what) {
                case 0: webs.put(who, BEADS, v); break;
                case 1: gatherers.put(who, THIMBLE, v); break;
                case 2: mourners.put(who, NEED, v); break;
                case 3: mist = v; break;
                case 4: sun = v; break;
                case 5: wind = v; break;
                default: break;
            }
        }
    }

    /** What happens in MINUTES and by hand, for real or in thought. */
    private static final class Trade {
        private static final int TOOK = 0;
        private static final int WAS_TORN = 1;
        private static final int SOLD = 2;
        private static final int MOST_FORMED = 20;
        private static final int MOST_TEARS = 1000;
        private static final int TEARS_IN_THOUGHT = 500;

        final Hedge hedge;
        final Texts texts;
        final Rows ledger;
        final boolean thought;
        final int[] facts = new int[Law.FACTS];

        Trade(Hedge hedge, Texts texts, Rows ledger, boolean thought) {
            this.hedge = hedge;
            this.texts = texts;
            this.ledger = ledger;
            this.thought = thought;
        }

        boolean mayDo(int what, int who, int v) {
            Rows gatherers = hedge.gatherers;
            if (what == 3) {
                return hedge.webs.has(who) && hedge.isTorn(who);
            }
            if (!gatherers.has(who)) {
                return false;
            }
            int place = gatherers.get(who, PLACE);
            int thimble = gatherers.get(who, THIMBLE);
            switch (what) {
                case 0:
                    return within(v, 0, LAST_PLACE) && v != gatherers.get(who, BOUND);
                case 1:
                    return within(v, 1, MOST_THIMBLE) && thimble < MOST_THIMBLE && hedge.webToTakeFrom(place) != NONE;
                case 2:
                    return hedge.mourners.has(v) && hedge.mourners.get(v, PLACE) == place
                            && thimble > 0 && hedge.mourners.get(v, NEED) > 0;
                default:
                    return false;
            }
        }

        void doByHand(int what, int who, int v) {
            switch (what) {
                case 0: hedge.gatherers.put(who, BOUND, v); break;
                case 1: takeBeads(who, v); break;
                case 2: sellBeads(who, v, MOST_THIMBLE); break;
                case 3: hedge.webs.put(who, TORN, 0); break;
                default: break;
            }
        }

        void passMinute() {
            followSky();
            formAndDry();
            followPaths();
            walk();
            growDry();
            hedge.minute++;
        }

        private void followSky() {
            Rows sky = texts.sky;
            for (int line = 0; line < sky.count; line++) {
                if (sky.get(line, 0) == hedge.minute) {
                    int n = sky.get(line, 2);
                    switch (sky.get(line, 1)) {
                        case Reader.MIST: hedge.mist = n; break;
                        case Reader.SUN: hedge.sun = n; break;
                        case Reader.WIND: hedge.wind = n; break;
                        default: hedge.webs.put(n, TORN, 0); break;
                    }
                }
            }
        }

        private void formAndDry() {
            for (int web = 0; web < hedge.webs.count; web++) {
                if (!hedge.isTorn(web)) {
                    hedge.addBeads(web, tells(Law.FORMS, web));
                    int gone = Math.min(tells(Law.DRIES, web), hedge.webs.get(web, BEADS));
                    hedge.webs.change(web, BEADS, -gone);
                    hedge.lost += gone;
                }
            }
        }

        private void followPaths() {
            Rows paths = texts.paths;
            for (int line = 0; line < paths.count; line++) {
                if (paths.get(line, 0) == hedge.minute) {
                    int gatherer = paths.get(line, 1);
                    int aim = paths.get(line, 3);
                    int n = paths.get(line, 4);
                    switch (paths.get(line, 2)) {
                        case Reader.GO: hedge.gatherers.put(gatherer, BOUND, aim); break;
                        case Reader.TAKE: takeBeads(gatherer, n); break;
                        default: sellBeads(gatherer, aim, n); break;
                    }
                }
            }
        }

        private void takeBeads(int gatherer, int n) {
            int web = hedge.webToTakeFrom(hedge.gatherers.get(gatherer, PLACE));
            int room = MOST_THIMBLE - hedge.gatherers.get(gatherer, THIMBLE);
            if (web == NONE || room <= 0) {
                return;
            }
            int taken = Math.min(n, Math.min(room, hedge.webs.get(web, BEADS)));
            hedge.webs.change(web, BEADS, -taken);
            hedge.gatherers.change(gatherer, THIMBLE, taken);
            ledger.add(hedge.minute, TOOK, gatherer, taken, 0);
            int tears = tells(Law.TEARS, web);
            if (thought ? tears >= TEARS_IN_THOUGHT : tears > 0 && hedge.drawOf(MOST_TEARS) < tears) {
                tear(web);
            }
        }

        private void tear(int web) {
            int beads = hedge.webs.get(web, BEADS);
            ledger.add(hedge.minute, WAS_TORN, web, beads, 0);
            hedge.webs.put(web, TORN, 1);
            hedge.webs.put(web, BEADS, 0);
            int takers = texts.nearOf(web) & ~hedge.tornSet();
            int howMany = Integer.bitCount(takers);
            int share = howMany > 0 ? beads / 2 / howMany : 0;
            int caught = 0;
            for (int other = 0; other < hedge.webs.count; other++) {
                if ((takers >> other & 1) != 0) {
                    caught += hedge.addBeads(other, share);
                }
            }
            hedge.lost += beads - caught;
        }

        private void sellBeads(int gatherer, int mourner, int n) {
            Rows mourners = hedge.mourners;
            if (mourners.get(mourner, PLACE) != hedge.gatherers.get(gatherer, PLACE)) {
                return;
            }
            int sold = Math.min(n, Math.min(hedge.gatherers.get(gatherer, THIMBLE), mourners.get(mourner, NEED)));
            if (sold <= 0) {
                return;
            }
            hedge.gatherers.change(gatherer, THIMBLE, -sold);
            hedge.gatherers.change(gatherer, PURSE, sold * mourners.get(mourner, PAYS));
            mourners.change(mourner, NEED, -sold);
            mourners.change(mourner, WEPT, sold);
            ledger.add(hedge.minute, SOLD, gatherer, sold, 0);
        }

        private void walk() {
            Rows gatherers = hedge.gatherers;
            for (int i = 0; i < gatherers.count; i++) {
                gatherers.change(i, PLACE, Integer.compare(gatherers.get(i, BOUND), gatherers.get(i, PLACE)));
            }
        }

        private void growDry() {
            Rows mourners = hedge.mourners;
            for (int i = 0; i < mourners.count; i++) {
                if (mourners.get(i, NEED) > 0) {
                    mourners.change(i, DRY, 1);
                }
            }
        }

        /** What THE LAW tells of a WEB for a word. */
        int tells(int word, int web) {
            int amount = customOf(word);
            if (texts.law.lines.find(Law.WORD, word) != NONE) {
                gatherFacts(web);
                int line = texts.law.lineFor(word, facts);
                amount = line == NONE ? amount : texts.law.amount(line, facts);
            }
            int most = word == Law.TEARS ? MOST_TEARS : MOST_FORMED;
            return Math.max(0, Math.min(most, amount));
        }

        /** What holds where THE LAW has no line. */
        private int customOf(int word) {
            if (word == Law.FORMS) {
                return hedge.mist;
            }
            return word == Law.DRIES ? hedge.sun : 100 * hedge.wind;
        }

        /** In the order of the words of U. */
        private void gatherFacts(int web) {
            facts[0] = hedge.webs.get(web, BEADS);
            facts[1] = hedge.webs.get(web, SPUN);
            facts[2] = hedge.webs.get(web, PLACE);
            facts[3] = Integer.bitCount(texts.nearOf(web));
            facts[4] = Integer.bitCount(hedge.tornSet());
            facts[5] = hedge.mist;
            facts[6] = hedge.sun;
            facts[7] = hedge.wind;
            facts[8] = hedge.minute;
        }
    }

    /** THE LAW, each line as steps on a pile: a sum, and behind it the steps of its condition, if it has one. */
    private static final class Law {
        static final int FORMS = 0;
        static final int DRIES = 1;
        static final int TEARS = 2;
        static final int FACTS = 9;
        /** Columns of a line; the condition's steps begin where the sum's end. */
        static final int WORD = 0;
        private static final int SUM = 1;
        private static final int CONDITION = 2;
        private static final int CLOSE = 3;
        /** Nine conditions within one another keep two each waiting, the innermost sum four more. */
        private static final int PILE = 32;

        final Rows lines = new Rows(16, 4);
        final Rows steps = new Rows(TAPE_BYTES, 2);
        private final int[] pile = new int[PILE];

        void copyFrom(Law other) {
            lines.copyFrom(other.lines);
            steps.copyFrom(other.steps);
        }

        int lineFor(int word, int[] facts) {
            for (int line = 0; line < lines.count; line++) {
                if (lines.get(line, WORD) == word) {
                    int from = lines.get(line, CONDITION);
                    int to = lines.get(line, CLOSE);
                    if (from == to || value(from, to, facts) != 0) {
                        return line;
                    }
                }
            }
            return NONE;
        }

        int amount(int line, int[] facts) {
            return value(lines.get(line, SUM), lines.get(line, CONDITION), facts);
        }

        private int value(int from, int to, int[] facts) {
            int high = 0;
            for (int i = from; i < to; i++) {
                int kind = steps.get(i, 0);
                if (kind == Reader.NUMBER || Reader.isFact(kind)) {
                    if (high < PILE) {
                        pile[high] = kind == Reader.NUMBER ? steps.get(i, 1) : cellOf(facts, kind - Reader.BEADS_WORD);
                        high++;
                    }
                } else if (kind == Reader.NOT) {
                    if (high > 0) {
                        pile[high - 1] = 1 - pile[high - 1];
                    }
                } else if (high > 1) {
                    pile[high - 2] = joined(kind, pile[high - 2], pile[high - 1]);
                    high--;
                }
            }
            return high > 0 ? pile[high - 1] : 0;
        }

        private static int joined(int kind, int a, int b) {
            switch (kind) {
                case Reader.PLUS: return a + b;
                case Reader.MINUS: return a - b;
                case Reader.TIMES: return a * b;
                case Reader.PART: return b != 0 ? a / b : 0;
                case Reader.LESS: return a < b ? 1 : 0;
                case Reader.EQUAL: return a == b ? 1 : 0;
                case Reader.MORE: return a > b ? 1 : 0;
                case Reader.AND: return a & b;
                default: return a | b;
            }
        }
    }

    /** The four TEXTS as they were read. */
    private static final class Texts {
        static final int LINES = 16;

        final Law law = new Law();
        /** MINUTE, GATHERER, the deed's word, place or MOURNER, N. */
        final Rows paths = new Rows(LINES, 5);
        /** MINUTE, the word, N or WEB. */
        final Rows sky = new Rows(LINES, 3);
        final Rows near = new Rows(LINES, 2);

        void clear() {
            law.lines.cut(0);
            law.steps.cut(0);
            paths.cut(0);
            sky.cut(0);
            near.cut(0);
        }

        void copyFrom(Texts other) {
            for (int k = LAW; k <= NEAR; k++) {
                adopt(k, other);
            }
        }

        void adopt(int k, Texts other) {
            switch (k) {
                case LAW: law.copyFrom(other.law); break;
                case PATHS: paths.copyFrom(other.paths); break;
                case SKY: sky.copyFrom(other.sky); break;
                case NEAR: near.copyFrom(other.near); break;
                default: break;
            }
        }

        int linesOf(int k) {
            switch (k) {
                case LAW: return law.lines.count;
                case PATHS: return paths.count;
                case SKY: return sky.count;
                default: return near.count;
            }
        }

        int nearOf(int web) {
            int set = 0;
            for (int line = 0; line < near.count; line++) {
                int a = near.get(line, 0);
                int b = near.get(line, 1);
                if (a == web) {
                    set |= 1 << b;
                }
                if (b == web) {
                    set |= 1 << a;
                }
            }
            return set;
        }
    }

    /** Reads the TAPE as a TEXT into a draft; the first FAULT stops it, and it is the first by its place. */
    private static final class Reader {
        static final int END = 0;
        static final int STRANGE = 1;
        static final int NUMBER = 2;
        /** The signs, in the order of SIGNS. */
        static final int SEMICOLON = 3;
        static final int PLUS = 4;
        static final int MINUS = 5;
        static final int TIMES = 6;
        static final int PART = 7;
        static final int OPEN = 8;
        static final int SHUT = 9;
        static final int LESS = 10;
        static final int EQUAL = 11;
        static final int MORE = 12;
        /** The words, in the order of WORDS. */
        static final int FORMS_WORD = 13;
        static final int TEARS_WORD = 15;
        static final int WHEN = 16;
        static final int OR = 17;
        static final int AND = 18;
        static final int NOT = 19;
        static final int BEADS_WORD = 20;
        static final int NEAR_WORD = 23;
        static final int MIST = 25;
        static final int SUN = 26;
        static final int WIND = 27;
        static final int MINUTE_WORD = 28;
        static final int AT = 29;
        static final int GATHERER = 30;
        static final int GO = 31;
        static final int TAKE = 32;
        static final int SELL = 33;
        static final int SPIN = 34;
        static final int WEB = 35;

        private static final String SIGNS = ";+-*/()<=>";
        /** One list for all four: a word of another text can't stand in this one either, with the same FAULT. */
        private static final String WORDS =
                "forms dries tears when or and not beads spun place near torn mist sun wind minute at gatherer go take sell spin web ";
        private static final int MOST_DIGITS = 4;
        private static final int MOST_OPEN = 8;
        private static final int LAST_TOLD_MINUTE = 999;
        private static final int OUT_OF_PLACE = 1;
        private static final int OUT_OF_BOUNDS = 2;
        private static final int TOO_MANY = 3;

        final Texts draft = new Texts();
        int fault;
        int faultPlace = NONE;
        private final Rows tape;
        private final Hedge hedge;
        /** The tokens, the end as the last of them. */
        private final int[] kinds = new int[TAPE_BYTES + 1];
        private final int[] values = new int[TAPE_BYTES + 1];
        private final int[] places = new int[TAPE_BYTES + 1];
        private int tokens;
        /** The token that comes next. */
        private int at;
        private int kind;

        Reader(Rows tape, Hedge hedge) {
            this.tape = tape;
            this.hedge = hedge;
        }

        static boolean isFact(int kind) {
            return kind >= BEADS_WORD && kind <= MINUTE_WORD;
        }

        /** How many lines the draft has; NONE if there is no such TEXT, or a FAULT. */
        int read(int k) {
            fault = 0;
            faultPlace = NONE;
            if (k < LAW || k > NEAR) {
                return NONE;
            }
            draft.clear();
            scan();
            for (int line = 0; line <= Texts.LINES && kind != END && fault == 0; line++) {
                if (line == Texts.LINES) {
                    fail(begins(k) ? TOO_MANY : OUT_OF_PLACE);
                    break;
                }
                switch (k) {
                    case LAW: lawLine(); break;
                    case PATHS: pathLine(); break;
                    case SKY: skyLine(); break;
                    default: nearLine(); break;
                }
            }
            return fault == 0 ? draft.linesOf(k) : NONE;
        }

        private boolean begins(int k) {
            if (k == LAW) {
                return kind >= FORMS_WORD && kind <= TEARS_WORD;
            }
            return kind == (k == NEAR ? WEB : AT);
        }

        private void lawLine() {
            int word = kind - FORMS_WORD;
            expect(begins(LAW));
            int start = draft.law.steps.count;
            sum();
            int middle = draft.law.steps.count;
            if (fault == 0 && kind == WHEN) {
                step();
                condition(0);
            }
            expect(kind == SEMICOLON);
            draft.law.lines.add(word, start, middle, draft.law.steps.count, 0);
        }

        /** B with its A in one loop, as and binds closer than or; open: how many ( and not stand open around it. */
        private void condition(int open) {
            boolean or = false;
            boolean and = false;
            for (int i = 0; i < tokens && fault == 0; i++) {
                clause(open);
                if (and) {
                    emit(AND);
                }
                and = fault == 0 && kind == AND;
                if (!and && or) {
                    emit(OR);
                }
                if (!and && kind != OR) {
                    return;
                }
                or = or || !and;
                step();
            }
        }

        /** C; a not is open until its C has come, so what stands behind several of them is counted from all. */
        private void clause(int open) {
            int nots = 0;
            while (kind == NOT && open + nots < MOST_OPEN) {
                nots++;
                step();
            }
            if ((kind == NOT || kind == OPEN) && open + nots >= MOST_OPEN) {
                fail(TOO_MANY);
            } else if (kind == OPEN) {
                step();
                condition(open + nots + 1);
                expect(kind == SHUT);
            } else {
                sum();
                int sign = kind;
                expect(sign >= LESS && sign <= MORE);
                sum();
                emit(sign);
            }
            for (int i = 0; i < nots; i++) {
                emit(NOT);
            }
        }

        /** E with its T and U in one loop: what waits for its second part is laid down when that has come. */
        private void sum() {
            int plus = END;
            int times = END;
            for (int i = 0; i < tokens && fault == 0; i++) {
                if (kind != NUMBER && (times == PART || !isFact(kind))) {
                    fail(OUT_OF_PLACE);
                    return;
                }
                int value = cellOf(values, at);
                if (times == PART && value == 0) {
                    fail(OUT_OF_BOUNDS);
                    return;
                }
                draft.law.steps.add(kind, value, 0, 0, 0);
                step();
                if (times != END) {
                    emit(times);
                }
                if (kind == TIMES || kind == PART) {
                    times = kind;
                } else {
                    times = END;
                    if (plus != END) {
                        emit(plus);
                    }
                    if (kind != PLUS && kind != MINUS) {
                        return;
                    }
                    plus = kind;
                }
                step();
            }
        }

        private void pathLine() {
            expect(kind == AT);
            int minute = number(0, LAST_TOLD_MINUTE);
            expect(kind == GATHERER);
            int gatherer = number(0, hedge.gatherers.count - 1);
            int deed = kind;
            expect(deed == GO || deed == TAKE || deed == SELL);
            int aim = 0;
            if (deed == GO) {
                aim = number(0, LAST_PLACE);
            } else if (deed == SELL) {
                aim = number(0, hedge.mourners.count - 1);
            }
            int n = deed == GO ? 0 : number(1, MOST_THIMBLE);
            expect(kind == SEMICOLON);
            draft.paths.add(minute, gatherer, deed, aim, n);
        }

        private void skyLine() {
            expect(kind == AT);
            int minute = number(0, LAST_TOLD_MINUTE);
            int word = kind;
            expect(word == MIST || word == SUN || word == WIND || word == SPIN);
            int n = number(0, word == SPIN ? hedge.webs.count - 1 : MOST_SKY);
            expect(kind == SEMICOLON);
            draft.sky.add(minute, word, n, 0, 0);
        }

        private void nearLine() {
            expect(kind == WEB);
            int one = number(0, hedge.webs.count - 1);
            expect(kind == NEAR_WORD);
            if (fault == 0 && kind == NUMBER && cellOf(values, at) == one) {
                fail(OUT_OF_BOUNDS);
            }
            int other = number(0, hedge.webs.count - 1);
            expect(kind == SEMICOLON);
            draft.near.add(one, other, 0, 0, 0);
        }

        private void expect(boolean fits) {
            if (!fits) {
                fail(OUT_OF_PLACE);
            } else {
                step();
            }
        }

        private int number(int low, int high) {
            int value = cellOf(values, at);
            if (kind != NUMBER) {
                fail(OUT_OF_PLACE);
            } else if (value < low || value > high) {
                fail(OUT_OF_BOUNDS);
            } else {
                step();
            }
            return value;
        }

        /** A later FAULT is none: behind the first one nothing is read any more. */
        private void fail(int why) {
            if (fault == 0) {
                fault = why;
                faultPlace = cellOf(places, at);
            }
        }

        private void step() {
            if (fault == 0 && at + 1 < tokens) {
                at++;
                kind = cellOf(kinds, at);
            }
        }

        private void emit(int what) {
            draft.law.steps.add(what, 0, 0, 0, 0);
        }

        private void scan() {
            tokens = 0;
            int from = 0;
            for (int i = 0; i < tape.count && from < tape.count; i++) {
                int sort = sortOf(tape.get(from, 0));
                int to = from + 1;
                while (sort != 0 && to < tape.count && sortOf(tape.get(to, 0)) == sort) {
                    to++;
                }
                if (sort == 'a') {
                    addToken(wordKind(from, to), 0, from);
                } else if (sort == '0') {
                    addNumber(from, to);
                } else if (tape.get(from, 0) != ' ' && tape.get(from, 0) != 10) {
                    addToken(signKind(tape.get(from, 0)), 0, from);
                }
                from = to;
            }
            addToken(END, 0, tape.count);
            at = 0;
            kind = cellOf(kinds, 0);
        }

        /** Letters and digits stand together with their like, all else alone. */
        private static int sortOf(int sign) {
            if (sign >= 'a' && sign <= 'z' || sign >= 'A' && sign <= 'Z') {
                return 'a';
            }
            return sign >= '0' && sign <= '9' ? '0' : 0;
        }

        private void addNumber(int from, int to) {
            int value = 0;
            for (int i = from; i < to && i < from + MOST_DIGITS; i++) {
                value = value * 10 + tape.get(i, 0) - '0';
            }
            addToken(to - from <= MOST_DIGITS ? NUMBER : STRANGE, value, from);
        }

        private void addToken(int what, int value, int place) {
            if (tokens < kinds.length) {
                kinds[tokens] = what;
                values[tokens] = value;
                places[tokens] = place;
                tokens++;
            }
        }

        private static int signKind(int sign) {
            int i = SIGNS.indexOf((char) sign);
            return i < 0 ? STRANGE : SEMICOLON + i;
        }

        private int wordKind(int from, int to) {
            int word = FORMS_WORD;
            int letters = 0;
            boolean same = true;
            for (int i = 0; i < WORDS.length(); i++) {
                char letter = WORDS.charAt(i);
                if (letter == ' ') {
                    if (same && letters == to - from) {
                        return word;
                    }
                    word++;
                    letters = 0;
                    same = true;
                } else {
                    same = same && from + letters < to && tape.get(from + letters, 0) == letter;
                    letters++;
                }
            }
            return STRANGE;
        }
    }

    /** The latest six hedges before what can be undone, in a ring, each with how long THE BOOK was. */
    private static final class Undoing {
        private static final int KEPT = 6;

        int count;
        private int first;
        private final Hedge[] hedges = new Hedge[KEPT];
        private final int[] lines = new int[KEPT];

        Undoing() {
            for (int i = 0; i < KEPT; i++) {
                hedges[i] = new Hedge();
            }
        }

        void forget() {
            count = 0;
        }

        void keep(Hedge hedge, int bookLines) {
            if (count == KEPT) {
                first = Math.floorMod(first + 1, KEPT);
                count--;
            }
            int slot = Math.floorMod(first + count, KEPT);
            Hedge room = hedges[slot];
            if (room != null) {
                room.copyFrom(hedge);
            }
            lines[slot] = bookLines;
            count++;
        }

        /** How long THE BOOK was then: its lines up to there are as they were, as it only grows in between. */
        int goBack(Hedge hedge) {
            count = Math.max(0, count - 1);
            int slot = Math.floorMod(first + count, KEPT);
            Hedge was = hedges[slot];
            if (was != null) {
                hedge.copyFrom(was);
            }
            return lines[slot];
        }
    }

    /** THE IMAGE. */
    private static final class Image {
        boolean taken;
        private final Hedge hedge = new Hedge();
        private final Rows ledger = new Rows(BOOK_LINES, 4);
        private final Texts texts = new Texts();
        private final Told told = new Told();

        void take(Hedge nowHedge, Rows nowLedger, Texts nowTexts, Told nowTold) {
            taken = true;
            hedge.copyFrom(nowHedge);
            ledger.copyFrom(nowLedger);
            texts.copyFrom(nowTexts);
            told.copyFrom(nowTold);
        }

        void giveBack(Hedge nowHedge, Rows nowLedger, Texts nowTexts, Told nowTold) {
            nowHedge.copyFrom(hedge);
            nowLedger.copyFrom(ledger);
            nowTexts.copyFrom(texts);
            nowTold.copyFrom(told);
        }
    }

    /** What is told for thought, and what comes of it. */
    private static final class Told {
        private static final int KNOTS = 6;
        /** The part each knot is of, three bits each: at first each is its own. */
        private static final int ALL_APART = 5 << 15 | 4 << 12 | 3 << 9 | 2 << 6 | 1 << 3;
        /** A round is packed as steps times this and its order, so that the least is the best. */
        private static final int STEP = 1000000;
        /** More than any round. */
        private static final int NO_ROUND = 1000 * STEP;
        private static final long ALL_PLACES = (1L << 36) - 1;
        private static final long TOP_ROW = 63L;
        private static final long LAST_ROW = 63L << 30;
        private static final long LEFT_COLUMN = 0x41041041L;
        private static final long RIGHT_COLUMN = LEFT_COLUMN << 5;

        final Rows threads = new Rows(12, 2);
        final int[] square = new int[9];
        final Rows marked = new Rows(8, 2);
        final Rows strings = new Rows(6, 2);
        final Rows stops = new Rows(7, 2);
        final Rows digits = new Rows(8, 1);
        final Rows signs = new Rows(12, 1);
        final Rows row = new Rows(12, 1);
        long open;
        /** For sums that need a row; nothing stays in it from one call to the next. */
        private final int[] scratch = new int[12];

        void copyFrom(Told other) {
            threads.copyFrom(other.threads);
            System.arraycopy(other.square, 0, square, 0, square.length);
            marked.copyFrom(other.marked);
            strings.copyFrom(other.strings);
            stops.copyFrom(other.stops);
            digits.copyFrom(other.digits);
            signs.copyFrom(other.signs);
            row.copyFrom(other.row);
            open = other.open;
        }

        int waysToHang() {
            return waysToJoin(threads, 0, KNOTS - 1, ALL_APART);
        }

        /** In how many ways so many threads from this one on join the parts without a ring. */
        private static int waysToJoin(Rows threads, int thread, int missing, int parts) {
            if (missing == 0) {
                return 1;
            }
            if (threads.count - thread < missing) {
                return 0;
            }
            int ways = waysToJoin(threads, thread + 1, missing, parts);
            int a = parts >> 3 * threads.get(thread, 0) & 7;
            int b = parts >> 3 * threads.get(thread, 1) & 7;
            if (a != b) {
                ways += waysToJoin(threads, thread + 1, missing - 1, joinedParts(parts, a, b));
            }
            return ways;
        }

        private static int joinedParts(int parts, int a, int b) {
            int joined = parts;
            for (int shift = 0; shift < 3 * KNOTS; shift += 3) {
                if ((parts >> shift & 7) == b) {
                    joined = joined & ~(7 << shift) | a << shift;
                }
            }
            return joined;
        }

        int squareDeterminant() {
            return square[0] * (square[4] * square[8] - square[5] * square[7])
                    - square[1] * (square[3] * square[8] - square[5] * square[6])
                    + square[2] * (square[3] * square[7] - square[4] * square[6]);
        }

        /** What lies at x, above or below of the fraction. */
        int between(int x, boolean above) {
            int left = NONE;
            int right = NONE;
            for (int i = 0; i < marked.count; i++) {
                int here = marked.get(i, 0);
                if (here <= x && (left == NONE || here > marked.get(left, 0))) {
                    left = i;
                }
                if (here >= x && (right == NONE || here < marked.get(right, 0))) {
                    right = i;
                }
            }
            if (left == NONE || right == NONE) {
                return 0;
            }
            int start = marked.get(left, 1);
            if (left == right) {
                return above ? start : 1;
            }
            int span = marked.get(right, 0) - marked.get(left, 0);
            int top = start * span + (marked.get(right, 1) - start) * (x - marked.get(left, 0));
            int shared = Numbers.greatestPart(Math.abs(top), span);
            if (shared == 0) {
                return 0;
            }
            return above ? top / shared : span / shared;
        }

        boolean hasStringAt(int place) {
            return strings.find(0, place) != NONE || strings.find(1, place) != NONE;
        }

        int crossings() {
            int couples = 0;
            for (int i = 0; i < strings.count; i++) {
                couples += Integer.bitCount(crossedBy(strings, i));
            }
            return couples / 2;
        }

        private static int crossedBy(Rows strings, int chord) {
            int low = Math.min(strings.get(chord, 0), strings.get(chord, 1));
            int high = Math.max(strings.get(chord, 0), strings.get(chord, 1));
            int set = 0;
            for (int i = 0; i < strings.count; i++) {
                boolean firstWithin = strings.get(i, 0) > low && strings.get(i, 0) < high;
                boolean secondWithin = strings.get(i, 1) > low && strings.get(i, 1) < high;
                if (firstWithin != secondWithin) {
                    set |= 1 << i;
                }
            }
            return set;
        }

        int mostUncrossed() {
            return mostOf(strings, 0, 0);
        }

        /** The most of the chords from this one on, without those that are crossed by what was chosen. */
        private static int mostOf(Rows strings, int chord, int crossed) {
            if (chord >= strings.count) {
                return 0;
            }
            int without = mostOf(strings, chord + 1, crossed);
            if ((crossed >> chord & 1) != 0) {
                return without;
            }
            return Math.max(without, 1 + mostOf(strings, chord + 1, crossed | crossedBy(strings, chord)));
        }

        int roundSteps() {
            return stops.count < 2 ? 0 : bestRound(stops, 0, (1 << stops.count) - 2, 0, 0) / STEP;
        }

        int roundOrder() {
            return stops.count < 2 ? 0 : bestRound(stops, 0, (1 << stops.count) - 2, 0, 0) % STEP;
        }

        /** The best way on from here through all that are left, and back to the first. */
        private static int bestRound(Rows stops, int here, int left, int steps, int order) {
            if (left == 0) {
                return (steps + way(stops, here, 0)) * STEP + order;
            }
            int best = NO_ROUND;
            for (int next = 1; next < stops.count; next++) {
                if ((left >> next & 1) != 0) {
                    int rest = left & ~(1 << next);
                    int longer = steps + way(stops, here, next);
                    best = Math.min(best, bestRound(stops, next, rest, longer, order * 10 + next));
                }
            }
            return best;
        }

        private static int way(Rows stops, int a, int b) {
            return Math.abs(stops.get(a, 0) - stops.get(b, 0)) + Math.abs(stops.get(a, 1) - stops.get(b, 1));
        }

        int nextOrder() {
            int n = Math.min(digits.count, scratch.length);
            for (int i = 0; i < n; i++) {
                scratch[i] = digits.get(i, 0);
            }
            int rise = n - 2;
            while (rise >= 0 && scratch[rise] >= scratch[rise + 1]) {
                rise--;
            }
            if (rise < 0) {
                return NONE;
            }
            int greater = n - 1;
            while (greater > rise + 1 && scratch[greater] <= scratch[rise]) {
                greater--;
            }
            swap(rise, greater);
            for (int low = rise + 1, high = n - 1; low < high; low++, high--) {
                swap(low, high);
            }
            int number = 0;
            for (int i = 0; i < n; i++) {
                number = number * 10 + scratch[i];
            }
            return number;
        }

        private void swap(int a, int b) {
            if (!within(a, 0, scratch.length - 1) || !within(b, 0, scratch.length - 1)) {
                return;
            }
            int kept = scratch[a];
            scratch[a] = scratch[b];
            scratch[b] = kept;
        }

        int whichOrder() {
            int before = 0;
            for (int i = 0; i < digits.count; i++) {
                countDigitsFrom(i);
                for (int lower = 0; lower < digits.get(i, 0) && lower <= 9; lower++) {
                    if (scratch[lower] > 0) {
                        scratch[lower]--;
                        before += ordersOfCounted(digits.count - i - 1);
                        scratch[lower]++;
                    }
                }
            }
            return before;
        }

        int allOrders() {
            countDigitsFrom(0);
            return ordersOfCounted(digits.count);
        }

        private void countDigitsFrom(int from) {
            for (int digit = 0; digit <= 9; digit++) {
                scratch[digit] = digits.countOf(0, digit, from);
            }
        }

        private int ordersOfCounted(int all) {
            int orders = 1;
            int left = all;
            for (int digit = 0; digit <= 9; digit++) {
                orders *= Numbers.choices(left, scratch[digit]);
                left -= scratch[digit];
            }
            return orders;
        }

        /** What is 0 the highest, 1 how many lie there, 2 at which sign it can't go on. */
        int stacked(int what) {
            int high = 0;
            int stuck = NONE;
            for (int i = 0; i < signs.count && stuck == NONE; i++) {
                int sign = signs.get(i, 0);
                if (high < takesFrom(sign)) {
                    stuck = i;
                } else {
                    high = layOn(sign, high);
                }
            }
            if (what == 0) {
                return cellOf(scratch, high - 1);
            }
            return what == 1 ? high : stuck;
        }

        private static int takesFrom(int sign) {
            if (sign <= 9) {
                return 0;
            }
            return sign == 13 ? 1 : 2;
        }

        /** Does one sign with so many on the stack as it needs; how many lie there then. */
        private int layOn(int sign, int high) {
            if (sign <= 9 || sign == 13) {
                if (!within(high, 0, scratch.length - 1)) {
                    return high;
                }
                scratch[high] = sign <= 9 ? sign : cellOf(scratch, high - 1);
                return high + 1;
            }
            if (high < 2 || high > scratch.length) {
                return high;
            }
            int lower = scratch[high - 2];
            int higher = scratch[high - 1];
            switch (sign) {
                case 10: scratch[high - 2] = lower + higher; break;
                case 11: scratch[high - 2] = lower - higher; break;
                case 12: scratch[high - 2] = lower * higher; break;
                default: swap(high - 2, high - 1); break;
            }
            return sign == 14 ? high : high - 1;
        }

        int runsOf(int wanted) {
            int found = 0;
            for (int from = 0; from < row.count; from++) {
                int sum = 0;
                for (int to = from; to < row.count; to++) {
                    sum += row.get(to, 0);
                    if (sum == wanted) {
                        found++;
                    }
                }
            }
            return found;
        }

        int longestUnlike() {
            int longest = 0;
            for (int from = 0; from < row.count; from++) {
                int seen = 0;
                int to = from;
                while (to < row.count && (seen >> row.get(to, 0) & 1) == 0) {
                    seen |= 1 << row.get(to, 0);
                    to++;
                }
                longest = Math.max(longest, to - from);
            }
            return longest;
        }

        int mostOften() {
            int best = NONE;
            int bestTimes = 0;
            for (int number = 0; number <= 9; number++) {
                int times = row.countOf(0, number, 0);
                if (times > bestTimes) {
                    best = number;
                    bestTimes = times;
                }
            }
            return best;
        }

        /** Each time round one more place may be opened beside what can be reached, or in the top row. */
        int fewestToOpen() {
            long reached = spread(TOP_ROW & open);
            for (int opened = 0; opened < 6; opened++) {
                if ((reached & LAST_ROW) != 0) {
                    return opened;
                }
                reached = spread(reached | beside(reached) | TOP_ROW);
            }
            return 6;
        }

        private long spread(long from) {
            long reached = from;
            for (int i = 0; i < 36; i++) {
                long more = reached | beside(reached) & open;
                if (more == reached) {
                    return reached;
                }
                reached = more;
            }
            return reached;
        }

        private static long beside(long places) {
            long sideways = (places & ~RIGHT_COLUMN) << 1 | (places & ~LEFT_COLUMN) >>> 1;
            return (sideways | places << 6 | places >>> 6) & ALL_PLACES;
        }
    }

    /** Sums of numbers alone. */
    private static final class Numbers {
        private static final long MODULUS = 1000000007L;
        private static final int[] STRINGS = {
            1, 2, 3, 5, 8, 13, 21, 34, 55, 89, 144, 233, 377, 610, 987, 1597, 2584, 4181, 6765
        };

        private Numbers() {
        }

        static int greatestPart(int a, int b) {
            int high = a;
            int low = b;
            for (int i = 0; i < 64 && low != 0; i++) {
                int rest = high % low;
                high = low;
                low = rest;
            }
            return high;
        }

        /** In how many ways so many can be chosen of so many. */
        static int choices(int of, int chosen) {
            if (chosen < 0 || chosen > of) {
                return 0;
            }
            int ways = 1;
            for (int i = 1; i <= chosen; i++) {
                ways = ways * (of - chosen + i) / i;
            }
            return ways;
        }

        /** Bit by bit: it goes 0 .. 0 1 .. 1 again and again. */
        static int allOnes(int n) {
            int ones = 0;
            for (int bit = 0; bit < 14; bit++) {
                int half = 1 << bit;
                int rest = (n + 1) % (2 * half);
                ones += (n + 1) / (2 * half) * half + Math.max(0, rest - half);
            }
            return ones;
        }

        /** For each 1 of n + 1: the numbers that have 0 there, are alike above it and free below it. */
        static int withOnes(int n, int k) {
            int found = 0;
            int above = 0;
            for (int bit = 14; bit >= 0; bit--) {
                if ((n + 1 >> bit & 1) != 0) {
                    found += choices(bit, k - above);
                    above++;
                }
            }
            return found;
        }

        static int strungBits(int n) {
            int bits = 0;
            int left = n;
            for (int i = STRINGS.length - 1; i >= 0; i--) {
                if (STRINGS[i] <= left) {
                    left -= STRINGS[i];
                    bits |= 1 << i;
                }
            }
            return bits;
        }

        static int rowColourings(int n, int k) {
            return (int) (k * power(k - 1, n - 1) % MODULUS);
        }

        /** A ring of n is a row of n whose ends differ: (k - 1) to the n, and k - 1 more or less by turns. */
        static int ringColourings(int n, int k) {
            if (n == 1) {
                return k;
            }
            long more = n % 2 == 0 ? k - 1 : MODULUS - (k - 1);
            return (int) ((power(k - 1, n) + more) % MODULUS);
        }

        private static long power(int base, int times) {
            long product = 1;
            for (int i = 0; i < times; i++) {
                product = product * base % MODULUS;
            }
            return product;
        }
    }

    /** GAME: smaller boards are the one of 4 by 4 with the rest full, so that what is found out once serves all. */
    private static final class Laying {
        private static final int SIDE = 4;
        private static final int ALL_FULL = 0xFFFF;
        private static final int LOSES = 1;
        private static final int WINS = 2;
        /** Each two fills two of sixteen places. */
        private static final int MOST_MOVES = 8;

        /** Two bits for each set of full places: 0 not known yet, LOSES, WINS. */
        private final int[] known = new int[(ALL_FULL + 1) / 16];

        int winningStart(int w, int h, int full) {
            int board = ALL_FULL;
            for (int place = 0; place < w * h; place++) {
                if ((full >> place & 1) == 0) {
                    board &= ~(1 << place / w * SIDE + place % w);
                }
            }
            for (int start = 0; start < 2 * w * h; start++) {
                int place = start / 2;
                int two = twoAt(place / w * SIDE + place % w, start % 2);
                if (two != 0 && (board & two) == 0 && !wins(known, board | two, 1)) {
                    return start;
                }
            }
            return NONE;
        }

        private static boolean wins(int[] known, int board, int moves) {
            int at = board >> 4;
            if (at < 0 || at >= known.length) {
                return false;
            }
            int shift = (board & 15) * 2;
            int found = known[at] >>> shift & 3;
            if (found != 0) {
                return found == WINS;
            }
            boolean won = false;
            for (int start = 0; start < 2 * SIDE * SIDE && !won && moves < MOST_MOVES; start++) {
                int two = twoAt(start / 2, start % 2);
                won = two != 0 && (board & two) == 0 && !wins(known, board | two, moves + 1);
            }
            known[at] |= (won ? WINS : LOSES) << shift;
            return won;
        }

        /** The two places of a two by one; 0 if it would lie beyond the edge. */
        private static int twoAt(int place, int stands) {
            if (stands == 1) {
                return place / SIDE < SIDE - 1 ? 1 << place | 1 << place + SIDE : 0;
            }
            return place % SIDE < SIDE - 1 ? 3 << place : 0;
        }
    }
}
