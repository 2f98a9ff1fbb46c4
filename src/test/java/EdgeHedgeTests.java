import java.util.List;

/** Boundary cases of what is on and along the hedge: promises 1 to 7, 13 to 16, 19 and 44. */
public final class EdgeHedgeTests {
    private static final Edges E = new Edges();
    private static final int NONE = Edges.NONE;
    private static final int MIN = Edges.MIN;
    private static final int MAX = Edges.MAX;

    public static void main(String[] args) {
        newObject1();
        state2();
        web3();
        gatherer4();
        mourner5();
        set6();
        setTheSky6();
        send7();
        take7();
        takeWhatThereIs7();
        tears7();
        sell7();
        spin7();
        of13();
        who14();
        weeper15();
        book16();
        claims19();
        look44();
        E.close("EdgeHedgeTests", 1, 2, 3, 4, 5, 6, 7, 13, 14, 15, 16, 19, 44);
    }

    private static void newObject1() {
        E.says(1, "A bare hedge.", m -> {
            E.eq("no webs", m.look(0), 0);
            E.eq("no gatherers", m.look(1), 0);
            E.eq("no mourners", m.look(2), 0);
            E.none("no web", m.of(0, 0));
            E.none("no gatherer", m.who(0, 0));
            E.none("no mourner", m.weeper(0, 0));
            E.none("no line in the book", m.book(0, 0));
            E.no("nothing to undo", m.undo());
            E.no("no image", m.image(false));
            E.eq("no fault", m.fault(0), 0);
            E.none("no fault's place", m.fault(1));
        });
        E.says(1, "A bare hedge.", m -> {
            m.web(1, 1);
            m.state(7);
            m.thread(0, 1);
            m.cell(0, 1);
            E.same("another object does not matter", Edges.all(new DewMarket()), bare());
        });
        E.says(1, "`NONE = -1`: None.", m -> E.eq("NONE", DewMarket.NONE, -1));
        E.says(1, "STATE of draws (an int, 0 at first)", m -> E.eq("look(10)", m.look(10), 0));
        E.says(1, "MIST, SUN, WIND 0 .. 9 (0 at first), LOST (beads, an int, 0 at first), MINUTE 0 .. 9999 (0 at first)", m -> {
            for (int what = 3; what <= 9; what++) {
                E.eq("look(" + what + ")", m.look(what), 0);
            }
        });
        E.says(1, "TEXTS (empty at first)", m -> {
            for (int what = 11; what <= 14; what++) {
                E.eq("look(" + what + ")", m.look(what), 0);
            }
            E.eq("nothing can be undone", m.look(15), 0);
        });
    }

    private static List<Integer> bare() {
        List<Integer> zeros = new java.util.ArrayList<>(java.util.Collections.nCopies(16, 0));
        // hangs, determinant, chords, round, leaks, runs; the next order, the stack; marks
        zeros.addAll(List.of(0, 0, 0, 0, 0, 0, 0, 6, 0, NONE, NONE, 0, 0, 0, 1, NONE));
        zeros.addAll(java.util.Collections.nCopies(24, 0));
        return zeros;
    }

    private static void state2() {
        E.says(2, "STATE is told: what it was.", m -> {
            E.eq("at first", m.state(MIN), 0);
            E.eq("the least", m.state(MAX), MIN);
            E.eq("the greatest", m.state(-1), MAX);
            E.eq("look(10)", m.look(10), -1);
            E.eq("below 0", m.state(-1), -1);
        });
        E.says(2, "it becomes 1664525 times itself + 1013904223 (ints, which wrap)", m -> {
            for (int state : new int[] {0, 1, -1, 12345, MIN, MAX}) {
                DewMarket one = readyToTear("tears 1;");
                one.state(state);
                one.act(1, 0, 1);
                E.eq("behind " + state, one.look(10), (int) (1664525L * state + 1013904223L));
            }
        });
        E.says(2, "then it is its highest 24 bits (without sign) modulo m", m -> {
            int below = 0;
            for (int i = 0; i < 60; i++) {
                int state = i * 71234567;
                long next = 1664525L * state + 1013904223L & 0xFFFFFFFFL;
                long draw = next / 256 % 1000;
                below += next > MAX ? 1 : 0;
                E.eq("not below " + draw + " of state " + state, tornBy("tears " + draw + ";", state), 0);
                E.eq("below " + (draw + 1) + " of state " + state, tornBy("tears " + (draw + 1) + ";", state), 1);
            }
            E.yes("some with the highest bit, some without", below > 10 && below < 50);
        });
    }

    /** One web with beads and one gatherer at it. */
    private static DewMarket readyToTear(String law) {
        DewMarket m = new DewMarket();
        m.web(0, 10);
        m.gatherer(0);
        m.set(0, 0, 10);
        Check.tell(m, 0, law);
        return m;
    }

    private static int tornBy(String law, int state) {
        DewMarket m = readyToTear(law);
        m.state(state);
        m.act(1, 0, 1);
        return m.of(0, 3);
    }

    private static void web3() {
        E.says(3, "WEBS 0 .. 11 as they come", m -> {
            for (int i = 0; i <= 11; i++) {
                E.eq("web", m.web(i, 1), i);
                E.eq("its place", m.of(i, 0), i);
            }
        });
        E.says(3, "PLACE 0 .. 19 along the hedge, SPUN 1 .. 30", m -> {
            E.none("place -1", m.web(-1, 1));
            E.none("place 20", m.web(20, 1));
            E.none("place MIN", m.web(MIN, 1));
            E.none("place MAX", m.web(MAX, 1));
            E.eq("place 0", m.web(0, 1), 0);
            E.eq("place 19", m.web(19, 1), 1);
            E.eq("place 0", m.of(0, 0), 0);
            E.eq("place 19", m.of(1, 0), 19);
        });
        E.says(3, "SPUN 1 .. 30", m -> {
            E.none("spun 0", m.web(0, 0));
            E.none("spun -1", m.web(0, -1));
            E.none("spun 31", m.web(0, 31));
            E.none("spun MIN", m.web(0, MIN));
            E.none("spun MAX", m.web(0, MAX));
            E.eq("spun 1", m.web(0, 1), 0);
            E.eq("spun 30", m.web(0, 30), 1);
            E.eq("spun 1", m.of(0, 1), 1);
            E.eq("spun 30", m.of(1, 1), 30);
        });
        E.says(3, "BEADS 0 .. 3 times SPUN (0 at first), TORN 0, 1 (0 at first)", m -> {
            m.set(3, 0, 9);
            m.web(3, 4);
            E.eq("beads", m.of(0, 2), 0);
            E.eq("torn", m.of(0, 3), 0);
        });
        E.says(3, "NONE if one can't be, or there are twelve", m -> {
            m.web(20, 1);
            m.web(0, 31);
            E.eq("none came", m.look(0), 0);
            for (int i = 0; i < 12; i++) {
                E.eq("web", m.web(i, 2), i);
            }
            E.none("the 13th", m.web(0, 1));
            E.eq("twelve", m.look(0), 12);
            E.eq("the last stays", m.of(11, 0), 11);
            E.none("no 13th", m.of(12, 0));
        });
    }

    private static void gatherer4() {
        E.says(4, "GATHERERS 0 .. 7 as they come: PLACE 0 .. 19", m -> {
            E.none("place -1", m.gatherer(-1));
            E.none("place 20", m.gatherer(20));
            E.none("place MIN", m.gatherer(MIN));
            E.none("place MAX", m.gatherer(MAX));
            E.eq("place 0", m.gatherer(0), 0);
            E.eq("place 19", m.gatherer(19), 1);
            E.eq("place 0", m.who(0, 0), 0);
            E.eq("place 19", m.who(1, 0), 19);
        });
        E.says(4, "BOUND for a place (where he is, at first), THIMBLE 0 .. 40 (0 at first), PURSE (an int, 0 at first)", m -> {
            m.gatherer(17);
            E.eq("bound", m.who(0, 1), 17);
            E.eq("thimble", m.who(0, 2), 0);
            E.eq("purse", m.who(0, 3), 0);
            m.minutes(1);
            E.eq("he stays", m.who(0, 0), 17);
        });
        E.says(4, "NONE if one can't be, or there are eight", m -> {
            m.gatherer(20);
            E.eq("none came", m.look(1), 0);
            for (int i = 0; i < 8; i++) {
                E.eq("gatherer", m.gatherer(i), i);
            }
            E.none("the ninth", m.gatherer(0));
            E.eq("eight", m.look(1), 8);
            E.eq("the last stays", m.who(7, 0), 7);
            E.none("no ninth", m.who(8, 0));
        });
    }

    private static void mourner5() {
        E.says(5, "MOURNERS 0 .. 9 as they come: PLACE 0 .. 19", m -> {
            E.none("place -1", m.mourner(-1, 0, 1));
            E.none("place 20", m.mourner(20, 0, 1));
            E.eq("place 0", m.mourner(0, 0, 1), 0);
            E.eq("place 19", m.mourner(19, 0, 1), 1);
            E.eq("place 0", m.weeper(0, 0), 0);
            E.eq("place 19", m.weeper(1, 0), 19);
        });
        E.says(5, "NEED 0 .. 99", m -> {
            E.none("need -1", m.mourner(0, -1, 1));
            E.none("need 100", m.mourner(0, 100, 1));
            E.eq("need 0", m.mourner(0, 0, 1), 0);
            E.eq("need 99", m.mourner(0, 99, 1), 1);
            E.eq("need 0", m.weeper(0, 1), 0);
            E.eq("need 99", m.weeper(1, 1), 99);
        });
        E.says(5, "PAYS 1 .. 9", m -> {
            E.none("pays 0", m.mourner(0, 0, 0));
            E.none("pays 10", m.mourner(0, 0, 10));
            E.none("pays MIN", m.mourner(0, 0, MIN));
            E.eq("pays 1", m.mourner(0, 0, 1), 0);
            E.eq("pays 9", m.mourner(0, 0, 9), 1);
            E.eq("pays 1", m.weeper(0, 2), 1);
            E.eq("pays 9", m.weeper(1, 2), 9);
        });
        E.says(5, "DRY, WEPT (ints, 0 at first)", m -> {
            m.mourner(0, 50, 1);
            E.eq("dry", m.weeper(0, 3), 0);
            E.eq("wept", m.weeper(0, 4), 0);
        });
        E.says(5, "NONE if one can't be, or there are ten", m -> {
            m.mourner(0, 0, 0);
            E.eq("none came", m.look(2), 0);
            for (int i = 0; i < 10; i++) {
                E.eq("mourner", m.mourner(i, i, 1), i);
            }
            E.none("the eleventh", m.mourner(0, 0, 1));
            E.eq("ten", m.look(2), 10);
            E.eq("the last stays", m.weeper(9, 0), 9);
            E.none("no eleventh", m.weeper(10, 0));
        });
    }

    private static void set6() {
        E.says(6, "(0 .. 3 times SPUN; not TORN)", m -> {
            m.web(0, 1);
            m.web(0, 30);
            E.yes("most of the least", m.set(0, 0, 3));
            E.no("more", m.set(0, 0, 4));
            E.yes("most of the greatest", m.set(0, 1, 90));
            E.no("more", m.set(0, 1, 91));
            E.no("below 0", m.set(0, 1, -1));
            E.no("MIN", m.set(0, 1, MIN));
            E.no("MAX", m.set(0, 1, MAX));
            E.eq("as told", m.of(0, 2), 3);
            E.eq("as told", m.of(1, 2), 90);
            E.yes("none", m.set(0, 1, 0));
            E.eq("none", m.of(1, 2), 0);
        });
        E.says(6, "(0 .. 3 times SPUN; not TORN)", m -> {
            m.web(0, 5);
            m.gatherer(0);
            Edges.tearWeb(m, 0, 0);
            E.eq("torn", m.of(0, 3), 1);
            E.no("beads on a torn one", m.set(0, 0, 1));
            E.no("none on a torn one", m.set(0, 0, 0));
            m.act(3, 0, 0);
            E.yes("on it when it is spun", m.set(0, 0, 1));
        });
        E.says(6, "1 THIMBLE of GATHERER who", m -> {
            m.gatherer(0);
            E.yes("full", m.set(1, 0, 40));
            E.no("more", m.set(1, 0, 41));
            E.no("below 0", m.set(1, 0, -1));
            E.eq("full", m.who(0, 2), 40);
            E.yes("empty", m.set(1, 0, 0));
            E.eq("empty", m.who(0, 2), 0);
        });
        E.says(6, "2 NEED of MOURNER who", m -> {
            m.mourner(0, 5, 1);
            E.yes("most", m.set(2, 0, 99));
            E.no("more", m.set(2, 0, 100));
            E.no("below 0", m.set(2, 0, -1));
            E.eq("most", m.weeper(0, 1), 99);
            E.yes("none", m.set(2, 0, 0));
            E.eq("none", m.weeper(0, 1), 0);
        });
    }

    private static void setTheSky6() {
        E.says(6, "3 MIST, 4 SUN, 5 WIND (who not asked): true", m -> {
            for (int what = 3; what <= 5; what++) {
                E.yes("most", m.set(what, MIN, 9));
                E.no("more", m.set(what, 0, 10));
                E.no("below 0", m.set(what, 0, -1));
                E.eq("most", m.look(what + 1), 9);
                E.yes("none", m.set(what, MAX, 0));
                E.eq("none", m.look(what + 1), 0);
                m.set(what, -1, what);
            }
            E.eq("mist", m.look(4), 3);
            E.eq("sun", m.look(5), 4);
            E.eq("wind", m.look(6), 5);
        });
        E.says(6, "false if one can't be, or another what", m -> {
            E.no("another what", m.set(-1, 0, 0));
            E.no("another what", m.set(6, 0, 0));
            E.no("another what", m.set(MIN, 0, 0));
            E.no("another what", m.set(MAX, 0, 0));
            for (int what = 0; what <= 2; what++) {
                E.no("nobody there", m.set(what, 0, 0));
            }
            m.web(0, 1);
            m.gatherer(0);
            m.mourner(0, 0, 1);
            List<Integer> before = Edges.all(m);
            for (int what = 0; what <= 2; what++) {
                E.no("before the first", m.set(what, -1, 0));
                E.no("behind the last", m.set(what, 1, 0));
                E.no("far off", m.set(what, MAX, 0));
            }
            E.same("nothing changed", Edges.all(m), before);
        });
    }

    private static void send7() {
        E.says(7, "to send a GATHERER (BOUND for a place, not the one he is BOUND for)", m -> {
            m.gatherer(5);
            E.no("where he is bound for at first", m.act(0, 0, 5));
            E.no("place -1", m.act(0, 0, -1));
            E.no("place 20", m.act(0, 0, 20));
            E.no("place MIN", m.act(0, 0, MIN));
            E.yes("the first place", m.act(0, 0, 0));
            E.no("that one again", m.act(0, 0, 0));
            E.yes("the last place", m.act(0, 0, 19));
            E.eq("bound", m.who(0, 1), 19);
            E.eq("not there yet", m.who(0, 0), 5);
            E.yes("to where he stands, bound for another one", m.act(0, 0, 5));
        });
        E.says(7, "false if it can't be, or another what", m -> {
            for (int what = -1; what <= 4; what++) {
                E.no("nobody there, what " + what, m.act(what, 0, 1));
            }
            m.web(3, 3);
            m.gatherer(3);
            m.mourner(3, 3, 3);
            m.set(0, 0, 3);
            m.set(1, 0, 3);
            List<Integer> before = Edges.all(m);
            for (int what = 0; what <= 2; what++) {
                E.no("before the first", m.act(what, -1, 0));
                E.no("behind the last", m.act(what, 1, 0));
                E.no("far off", m.act(what, MIN, 1));
            }
            E.no("another what", m.act(4, 0, 1));
            E.no("another what", m.act(-1, 0, 1));
            E.no("another what", m.act(MAX, 0, 1));
            E.same("nothing changed", Edges.all(m), before);
        });
    }

    private static void take7() {
        E.says(7, "at most N 1 .. 40", m -> {
            m.web(0, 30);
            m.gatherer(0);
            m.set(0, 0, 90);
            E.no("none", m.act(1, 0, 0));
            E.no("below 0", m.act(1, 0, -1));
            E.no("41", m.act(1, 0, 41));
            E.no("MAX", m.act(1, 0, MAX));
            E.yes("one", m.act(1, 0, 1));
            E.eq("one", m.who(0, 2), 1);
            m.set(1, 0, 0);
            E.yes("forty", m.act(1, 0, 40));
            E.eq("forty", m.who(0, 2), 40);
            E.eq("left", m.of(0, 2), 49);
        });
        E.says(7, "a WEB there that is not TORN and has BEADS, and room", m -> {
            m.web(1, 5);
            m.web(0, 5);
            m.gatherer(0);
            m.set(0, 0, 5);
            E.no("its beads are elsewhere", m.act(1, 0, 1));
            m.set(0, 1, 5);
            m.set(1, 0, 40);
            E.no("no room", m.act(1, 0, 1));
            m.set(1, 0, 39);
            E.yes("room for one", m.act(1, 0, 5));
            E.eq("full", m.who(0, 2), 40);
            E.eq("left", m.of(1, 2), 4);
            Edges.tearWeb(m, 1, 0);
            E.eq("torn", m.of(1, 3), 1);
            E.no("torn", m.act(1, 0, 1));
        });
    }

    private static void takeWhatThereIs7() {
        E.says(7, "of the least WEB at his PLACE that is not TORN and has BEADS (none: nothing)", m -> {
            m.web(3, 5);
            m.web(4, 5);
            m.web(4, 5);
            m.web(4, 5);
            m.web(4, 5);
            m.gatherer(4);
            m.set(0, 0, 5);
            Edges.tearWeb(m, 1, 0);
            m.set(0, 3, 5);
            m.set(0, 4, 5);
            m.set(1, 0, 0);
            E.yes("take", m.act(1, 0, 9));
            E.eq("elsewhere", m.of(0, 2), 5);
            E.eq("the least with beads", m.of(3, 2), 0);
            E.eq("not of two webs", m.of(4, 2), 5);
            E.eq("as many as it has", m.who(0, 2), 5);
        });
        E.says(7, "as many as N, as it has and as there is room for in his THIMBLE", m -> {
            m.web(0, 30);
            m.gatherer(0);
            int[][] cases = {{90, 0, 7, 7}, {3, 0, 7, 3}, {90, 35, 7, 5}, {4, 36, 4, 4}, {1, 39, 40, 1}, {90, 0, 40, 40}};
            for (int[] each : cases) {
                m.set(0, 0, each[0]);
                m.set(1, 0, each[1]);
                E.yes("take", m.act(1, 0, each[2]));
                E.eq("left", m.of(0, 2), each[0] - each[3]);
                E.eq("taken", m.who(0, 2), each[1] + each[3]);
                E.eq("in the book", m.book(m.look(9) - 1, 3), each[3]);
            }
        });
    }

    private static void tears7() {
        E.says(7, "is it above 0, a DRAW of 1000: below it it is TORN", m -> {
            // from STATE 0 the first draw is 563
            int[] tears = {0, 1, 563, 564, 1000};
            for (int each : tears) {
                DewMarket one = readyToTear("tears " + each + ";");
                one.act(1, 0, 1);
                E.eq("torn by " + each, one.of(0, 3), each > 563 ? 1 : 0);
                E.eq("drawn for " + each, one.look(10), each > 0 ? 1013904223 : 0);
            }
        });
        E.says(7, "then tears is asked of the WEB (beads as left, itself not TORN yet)", m -> {
            DewMarket one = readyToTear("tears 1000 when beads = 6 and torn = 0;");
            one.act(1, 0, 4);
            E.eq("six are left", one.of(0, 3), 1);
            DewMarket other = readyToTear("tears 1000 when beads = 10 or torn > 0;");
            other.act(1, 0, 4);
            E.eq("not as before", other.of(0, 3), 0);
        });
        E.says(7, "none near: all", m -> {
            DewMarket one = readyToTear("tears 1000;");
            one.act(1, 0, 3);
            E.eq("lost", one.look(7), 7);
            E.eq("it has 0", one.of(0, 2), 0);
        });
    }

    private static void sell7() {
        E.says(7, "as many as his THIMBLE has and the other NEEDS, one at least", m -> {
            m.gatherer(2);
            m.mourner(2, 0, 9);
            int[][] cases = {{40, 99, 40}, {40, 39, 39}, {1, 99, 1}, {40, 1, 1}, {7, 7, 7}};
            int wept = 0;
            for (int[] each : cases) {
                m.set(1, 0, each[0]);
                m.set(2, 0, each[1]);
                E.yes("sell", m.act(2, 0, 0));
                wept += each[2];
                E.eq("thimble", m.who(0, 2), each[0] - each[2]);
                E.eq("need", m.weeper(0, 1), each[1] - each[2]);
                E.eq("wept", m.weeper(0, 4), wept);
                E.eq("purse", m.who(0, 3), 9 * wept);
            }
            m.set(1, 0, 0);
            m.set(2, 0, 5);
            E.no("thimble empty", m.act(2, 0, 0));
            m.set(1, 0, 5);
            m.set(2, 0, 0);
            E.no("no need", m.act(2, 0, 0));
        });
        E.says(7, "to SELL to a MOURNER at his PLACE", m -> {
            m.gatherer(2);
            m.mourner(1, 9, 1);
            m.mourner(3, 9, 1);
            m.mourner(2, 9, 1);
            m.set(1, 0, 9);
            E.no("one place down", m.act(2, 0, 0));
            E.no("one place up", m.act(2, 0, 1));
            E.no("no such mourner", m.act(2, 0, 3));
            E.no("no such mourner", m.act(2, 0, -1));
            E.no("no such mourner", m.act(2, 0, MIN));
            E.yes("there", m.act(2, 0, 2));
        });
    }

    private static void spin7() {
        E.says(7, "to SPIN a WEB that is TORN", m -> {
            for (int i = 0; i < 12; i++) {
                m.web(0, 1);
            }
            m.gatherer(0);
            Edges.tearWeb(m, 11, 0);
            for (int i = 0; i < 11; i++) {
                E.no("not torn", m.act(3, i, 0));
            }
            E.yes("the last", m.act(3, 11, 0));
            E.no("nobody's number but a web's", m.act(3, 12, 0));
        });
        E.says(7, "3 to SPIN WEB who (v not asked)", m -> {
            m.web(0, 5);
            m.gatherer(0);
            E.no("not torn", m.act(3, 0, 0));
            E.no("no such web", m.act(3, 1, 0));
            E.no("no such web", m.act(3, -1, 0));
            E.no("no such web", m.act(3, MAX, 0));
            Edges.tearWeb(m, 0, 0);
            E.eq("torn", m.look(3), 1);
            E.yes("spun", m.act(3, 0, MIN));
            E.eq("not torn any more", m.look(3), 0);
            E.eq("without beads", m.of(0, 2), 0);
            E.no("not twice", m.act(3, 0, MAX));
        });
    }

    private static void of13() {
        E.says(13, "Of a WEB what 0 PLACE, 1 SPUN, 2 BEADS, 3 TORN, 4 forms, 5 dries, 6 tears", m -> {
            m.web(19, 30);
            m.gatherer(19);
            m.set(0, 0, 90);
            Check.tell(m, 0, "forms 20;dries 19;tears 1000;");
            int[] due = {19, 30, 90, 0, 20, 19, 1000};
            for (int what = 0; what <= 6; what++) {
                E.eq("what " + what, m.of(0, what), due[what]);
            }
            m.act(1, 0, 1);
            E.eq("beads of a torn one", m.of(0, 2), 0);
            E.eq("torn", m.of(0, 3), 1);
            E.eq("forms of a torn one, too", m.of(0, 4), 20);
        });
        E.says(13, "7 which are near it (a set). NONE if there is none such, or another what.", m -> {
            E.none("no webs", m.of(0, 0));
            for (int i = 0; i < 12; i++) {
                m.web(i, 1);
            }
            E.eq("none near", m.of(0, 7), 0);
            Check.tell(m, 3, "web 0 near 11;web 5 near 0;web 10 near 11;");
            E.eq("near 0", m.of(0, 7), 1 << 11 | 1 << 5);
            E.eq("near 5", m.of(5, 7), 1);
            E.eq("near 10", m.of(10, 7), 1 << 11);
            E.eq("near 11", m.of(11, 7), 1 | 1 << 10);
            E.eq("the last web", m.of(11, 0), 11);
            for (int what = 0; what <= 7; what++) {
                E.none("before the first, " + what, m.of(-1, what));
                E.none("behind the last, " + what, m.of(12, what));
                E.none("far off, " + what, m.of(MIN, what));
                E.none("far off, " + what, m.of(MAX, what));
            }
            E.none("another what", m.of(0, -1));
            E.none("another what", m.of(0, 8));
            E.none("another what", m.of(0, MIN));
            E.none("another what", m.of(0, MAX));
        });
    }

    private static void who14() {
        E.says(14, "Of a GATHERER what 0 PLACE, 1 BOUND, 2 THIMBLE, 3 PURSE. NONE if there is none such, or another what.", m -> {
            E.none("no gatherers", m.who(0, 0));
            m.gatherer(3);
            m.gatherer(4);
            for (int what = 0; what <= 3; what++) {
                E.none("before the first", m.who(-1, what));
                E.none("behind the last", m.who(2, what));
                E.none("far off", m.who(MAX, what));
            }
            E.eq("the last", m.who(1, 0), 4);
            E.none("another what", m.who(0, -1));
            E.none("another what", m.who(0, 4));
            E.none("another what", m.who(0, MIN));
            m.mourner(3, 9, 9);
            m.set(1, 0, 2);
            m.act(2, 0, 0);
            m.set(1, 0, 1);
            m.act(0, 0, 7);
            E.eq("place", m.who(0, 0), 3);
            E.eq("bound", m.who(0, 1), 7);
            E.eq("thimble", m.who(0, 2), 1);
            E.eq("purse", m.who(0, 3), 18);
        });
    }

    private static void weeper15() {
        String sentence = "Of a MOURNER what 0 PLACE, 1 NEED, 2 PAYS, 3 DRY, 4 WEPT. NONE if there is none such, or another what.";
        E.says(15, sentence, m -> {
            E.none("no mourners", m.weeper(0, 0));
            m.mourner(3, 9, 8);
            m.mourner(4, 0, 1);
            for (int what = 0; what <= 4; what++) {
                E.none("before the first", m.weeper(-1, what));
                E.none("behind the last", m.weeper(2, what));
                E.none("far off", m.weeper(MIN, what));
            }
            E.none("another what", m.weeper(0, -1));
            E.none("another what", m.weeper(0, 5));
            E.none("another what", m.weeper(0, MAX));
            m.minutes(2);
            m.gatherer(3);
            m.set(1, 0, 3);
            m.act(2, 0, 0);
            int[] due = {3, 6, 8, 2, 3};
            for (int what = 0; what <= 4; what++) {
                E.eq("what " + what, m.weeper(0, what), due[what]);
            }
            E.eq("without need not dry", m.weeper(1, 3), 0);
        });
    }

    private static void book16() {
        E.says(16, "NONE if there is none such, or another what.", m -> {
            E.none("empty", m.book(0, 0));
            m.gatherer(3);
            m.mourner(3, 9, 8);
            m.set(1, 0, 3);
            m.minutes(5);
            m.act(2, 0, 0);
            int[] due = {5, 2, 0, 3};
            for (int what = 0; what <= 3; what++) {
                E.eq("what " + what, m.book(0, what), due[what]);
                E.none("before the first", m.book(-1, what));
                E.none("behind the last", m.book(1, what));
                E.none("far off", m.book(MAX, what));
            }
            E.none("another what", m.book(0, -1));
            E.none("another what", m.book(0, 4));
            E.none("another what", m.book(0, MIN));
        });
    }

    private static void claims19() {
        E.says(19, "CLAIMS at a place: all BEADS of WEBS there that are not TORN", m -> {
            m.web(7, 30);
            m.web(7, 30);
            m.web(8, 30);
            m.set(0, 0, 90);
            m.set(0, 1, 90);
            m.set(0, 2, 1);
            E.eq("both", m.claims(7), 180);
            E.eq("the next place", m.claims(8), 1);
            E.eq("none there", m.claims(6), 0);
        });
        E.says(19, "NONE if there is no such place.", m -> {
            m.web(0, 1);
            m.web(19, 1);
            m.set(0, 0, 2);
            m.set(0, 1, 3);
            E.none("before the first", m.claims(-1));
            E.none("behind the last", m.claims(20));
            E.none("far off", m.claims(MIN));
            E.none("far off", m.claims(MAX));
            E.eq("the first", m.claims(0), 2);
            E.eq("the last", m.claims(19), 3);
        });
    }

    private static void look44() {
        E.says(44, "NONE - 99999 for another what.", m -> {
            E.eq("-1", m.look(-1), -100000);
            E.eq("16", m.look(16), -100000);
            E.eq("MIN", m.look(MIN), -100000);
            E.eq("MAX", m.look(MAX), -100000);
        });
        E.says(44, "4 MIST, 5 SUN, 6 WIND, 7 LOST, 8 MINUTE, 9 lines of THE BOOK, 10 STATE, 11 lines of THE LAW, 12 of PATHS,"
                + " 13 of SKY, 14 of NEAR, 15 what can be undone", m -> {
            m.web(0, 1);
            m.web(0, 9);
            m.gatherer(0);
            m.mourner(0, 9, 1);
            m.set(1, 0, 9);
            m.set(3, 0, 9);
            m.set(4, 0, 8);
            m.set(5, 0, 7);
            m.state(-7);
            Check.tell(m, 0, "tears 0;tears 0;tears 0;");
            Check.tell(m, 1, "at 999 gatherer 0 go 1;".repeat(4));
            Check.tell(m, 2, "at 999 sun 1;".repeat(5));
            Check.tell(m, 3, "web 0 near 1;".repeat(6));
            m.minutes(1);
            m.act(2, 0, 0);
            int[] due = {2, 1, 1, 0, 9, 8, 7, 3 + 8, 1, 1, -7, 3, 4, 5, 6, 2};
            for (int what = 0; what <= 15; what++) {
                E.eq("look(" + what + ")", m.look(what), due[what]);
            }
        });
        E.says(44, "3 those TORN (a set)", m -> {
            for (int i = 0; i < 12; i++) {
                m.web(0, 1);
            }
            m.gatherer(0);
            Edges.tearWeb(m, 0, 0);
            E.eq("the first", m.look(3), 1);
            for (int i = 1; i < 12; i++) {
                Edges.tearWeb(m, i, 0);
            }
            E.eq("all twelve", m.look(3), 4095);
            m.act(3, 0, 0);
            E.eq("all but the first", m.look(3), 4094);
        });
        E.says(44, "(STATE as it is.)", m -> {
            m.state(-100000);
            E.eq("even so", m.look(10), -100000);
            m.state(MIN);
            E.eq("the least", m.look(10), MIN);
            E.eq("and unchanged", m.look(10), MIN);
        });
    }
}
