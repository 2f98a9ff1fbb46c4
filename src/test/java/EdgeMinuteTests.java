import java.util.List;

/** Boundary cases of MINUTES, of THE BOOK and of how minutes go in thought: promises 8 and 16 to 18. */
public final class EdgeMinuteTests {
    private static final Edges E = new Edges();
    private static final int MIN = Edges.MIN;
    private static final int MAX = Edges.MAX;

    public static void main(String[] args) {
        howMany8();
        lastMinute8();
        sky8();
        form8();
        dry8();
        paths8();
        takeByPaths8();
        takeNothing8();
        sellByPaths8();
        shake8();
        shakeToFew8();
        walk8();
        growDry8();
        book16();
        bookIsFull16();
        goes17();
        goesWithoutDraws17();
        goesFar17();
        weeps18();
        E.close("EdgeMinuteTests", 8, 16, 17, 18);
    }

    private static void howMany8() {
        E.says(8, "MINUTES go by (1 .. 60): how many beads were wept in them.", m -> {
            m.gatherer(0);
            m.mourner(0, 99, 1);
            m.mourner(0, 99, 1);
            m.set(1, 0, 40);
            m.act(2, 0, 1);
            m.set(1, 0, 40);
            Check.tell(m, 1, "at 0 gatherer 0 sell 0 3;at 0 gatherer 0 sell 1 4;at 1 gatherer 0 sell 0 5;at 2 gatherer 0 sell 0 6;");
            E.eq("the least", m.minutes(1), 7);
            E.eq("not those of before", m.minutes(2), 11);
            E.eq("none", m.minutes(60), 0);
            E.eq("all went by", m.look(8), 63);
        });
        E.says(8, "NONE, and nothing is done, if one can't be", m -> {
            m.web(0, 1);
            m.set(3, 0, 1);
            m.mourner(0, 1, 1);
            List<Integer> before = Edges.all(m);
            for (int n : new int[] {0, -1, 61, MIN, MAX}) {
                E.none("minutes(" + n + ")", m.minutes(n));
            }
            E.same("nothing is done", Edges.all(m), before);
        });
    }

    private static void lastMinute8() {
        E.says(8, "or MINUTE would be above 9999", m -> {
            m.mourner(0, 1, 1);
            for (int i = 0; i < 166; i++) {
                m.minutes(60);
            }
            E.eq("minute", m.look(8), 9960);
            E.none("one too many", m.minutes(40));
            E.none("too many", m.minutes(60));
            E.eq("nothing is done", m.look(8), 9960);
            E.eq("nothing is done", m.weeper(0, 3), 9960);
            E.eq("just so many", m.minutes(39), 0);
            E.eq("the last", m.look(8), 9999);
            E.none("no more", m.minutes(1));
            E.eq("six can be undone", m.look(15), 6);
            m.undo();
            E.eq("one back", m.look(8), 9998);
            E.eq("and forth", m.minutes(1), 0);
            E.eq("the last", m.look(8), 9999);
        });
    }

    private static void sky8() {
        E.says(8, "Line by line of SKY for it: mist, sun, wind: it is N", m -> {
            Check.tell(m, 2, "at 1 mist 9;at 1 mist 2;at 1 sun 9;at 1 wind 0;at 1 wind 9;at 2 mist 0;at 0 sun 3;");
            m.minutes(1);
            E.eq("mist before", m.look(4), 0);
            E.eq("sun", m.look(5), 3);
            m.minutes(1);
            E.eq("mist by the later line", m.look(4), 2);
            E.eq("sun", m.look(5), 9);
            E.eq("wind by the later line", m.look(6), 9);
            m.minutes(1);
            E.eq("mist", m.look(4), 0);
            E.eq("sun stays", m.look(5), 9);
        });
        E.says(8, "spin: that WEB is not TORN any more", m -> {
            m.web(0, 1);
            m.web(0, 1);
            m.gatherer(0);
            Edges.tearWeb(m, 0, 0);
            Edges.tearWeb(m, 1, 0);
            Check.tell(m, 2, "at 0 spin 1;at 1 spin 1;");
            Check.tell(m, 0, "forms 2;");
            m.minutes(1);
            E.eq("that one alone", m.look(3), 1);
            E.eq("beads form on it at once", m.of(1, 2), 2);
            E.eq("none on the torn one", m.of(0, 2), 0);
            m.minutes(1);
            E.eq("not torn before", m.look(3), 1);
            E.eq("its beads stay", m.of(1, 2), 3);
        });
        E.says(8, "at MINUTE (mist N | sun N | wind N | spin WEB)", m -> {
            Check.tell(m, 2, "at 999 mist 7;");
            for (int i = 0; i < 16; i++) {
                m.minutes(60);
            }
            m.minutes(39);
            E.eq("minute", m.look(8), 999);
            E.eq("not yet", m.look(4), 0);
            m.minutes(1);
            E.eq("in the last told minute", m.look(4), 7);
        });
    }

    private static void form8() {
        E.says(8, "3 times SPUN at most; what there is no room for never was", m -> {
            m.web(0, 1);
            m.web(0, 7);
            m.web(0, 30);
            m.set(0, 1, 18);
            Check.tell(m, 0, "forms 4;");
            m.minutes(1);
            E.eq("full", m.of(0, 2), 3);
            E.eq("full", m.of(1, 2), 21);
            E.eq("room", m.of(2, 2), 4);
            m.minutes(60);
            E.eq("full", m.of(2, 2), 90);
            E.eq("nothing is lost", m.look(7), 0);
        });
        E.says(8, "WEB by WEB that is not TORN: forms is asked", m -> {
            m.web(0, 5);
            m.web(0, 5);
            m.gatherer(0);
            Edges.tearWeb(m, 0, 0);
            m.set(3, 0, 2);
            m.minutes(1);
            E.eq("none on a torn one", m.of(0, 2), 0);
            E.eq("the other", m.of(1, 2), 2);
        });
        E.says(8, "BEADS so many more", m -> {
            m.web(0, 5);
            m.set(0, 0, 4);
            Check.tell(m, 0, "forms beads;");
            m.minutes(1);
            E.eq("beads as they are before", m.of(0, 2), 8);
            Check.tell(m, 0, "forms 0-5;dries 0-5;");
            m.minutes(1);
            E.eq("never less by forming", m.of(0, 2), 8);
            E.eq("nothing is lost", m.look(7), 0);
        });
    }

    private static void dry8() {
        E.says(8, "then dries is asked (beads as they are then), BEADS so many less (0 at least), LOST so many more as go", m -> {
            m.web(0, 5);
            Check.tell(m, 0, "forms 6;dries 4 when beads = 6;dries 0;");
            m.minutes(1);
            E.eq("six came, four went", m.of(0, 2), 2);
            E.eq("lost", m.look(7), 4);
            m.minutes(1);
            E.eq("eight then, none goes", m.of(0, 2), 8);
            Check.tell(m, 0, "dries 20;");
            m.minutes(1);
            E.eq("0 at least", m.of(0, 2), 0);
            E.eq("those that were there are lost", m.look(7), 12);
            m.minutes(1);
            E.eq("none there, none lost", m.look(7), 12);
        });
        E.says(8, "LOST so many more as go", m -> {
            m.web(0, 2);
            m.web(0, 30);
            m.set(3, 0, 9);
            m.set(4, 0, 9);
            m.minutes(1);
            E.eq("six of nine found room, all dry", m.look(7), 6 + 9);
            E.eq("none left", m.of(0, 2) + m.of(1, 2), 0);
        });
        E.says(8, "WEB by WEB that is not TORN", m -> {
            m.web(0, 5);
            m.gatherer(0);
            Edges.tearWeb(m, 0, 0);
            m.set(4, 0, 9);
            m.minutes(3);
            E.eq("nothing dries on a torn one", m.look(7), 0);
        });
    }

    private static void paths8() {
        E.says(8, "go: BOUND for that place", m -> {
            m.gatherer(5);
            m.gatherer(5);
            Check.tell(m, 1, "at 0 gatherer 0 go 19;at 0 gatherer 1 go 9;at 0 gatherer 1 go 0;at 2 gatherer 0 go 7;");
            m.minutes(1);
            E.eq("bound", m.who(0, 1), 19);
            E.eq("one nearer", m.who(0, 0), 6);
            E.eq("by the later line", m.who(1, 1), 0);
            E.eq("one nearer", m.who(1, 0), 4);
            m.minutes(2);
            E.eq("there already", m.who(0, 0), 7);
            E.eq("bound", m.who(0, 1), 7);
        });
        E.says(8, "Line by line of PATHS for it", m -> {
            m.web(3, 9);
            m.gatherer(3);
            m.mourner(3, 9, 2);
            m.set(0, 0, 9);
            Check.tell(m, 1, "at 0 gatherer 0 sell 0 9;at 0 gatherer 0 take 4;at 0 gatherer 0 sell 0 1;at 0 gatherer 0 take 3;");
            E.eq("one is wept", m.minutes(1), 1);
            E.eq("nothing was there to sell at first", m.look(9), 3);
            E.eq("thimble", m.who(0, 2), 6);
            E.eq("left", m.of(0, 2), 2);
        });
    }

    private static void takeByPaths8() {
        E.says(8, "as many as N, as it has and as there is room for in his THIMBLE", m -> {
            int[][] cases = {{90, 0, 7, 7}, {3, 0, 7, 3}, {90, 35, 7, 5}, {4, 36, 4, 4}, {1, 39, 40, 1}, {90, 0, 40, 40}, {90, 0, 1, 1}};
            for (int[] each : cases) {
                DewMarket one = new DewMarket();
                one.web(0, 30);
                one.gatherer(0);
                one.set(0, 0, each[0]);
                one.set(1, 0, each[1]);
                Check.tell(one, 1, "at 0 gatherer 0 take " + each[2] + ";");
                one.minutes(1);
                E.eq("left of " + each[0], one.of(0, 2), each[0] - each[3]);
                E.eq("taken to " + each[1], one.who(0, 2), each[1] + each[3]);
                E.eq("in the book", one.book(0, 3), each[3]);
            }
        });
        E.says(8, "take: of the least WEB at his PLACE that is not TORN and has BEADS (none: nothing)", m -> {
            m.web(3, 5);
            m.web(4, 5);
            m.web(4, 5);
            m.web(4, 5);
            m.gatherer(4);
            m.set(0, 0, 5);
            Edges.tearWeb(m, 1, 0);
            m.set(0, 3, 5);
            m.set(1, 0, 0);
            Check.tell(m, 1, "at 0 gatherer 0 take 3;at 1 gatherer 0 take 9;at 2 gatherer 0 take 9;");
            m.minutes(1);
            E.eq("of the least with beads", m.of(3, 2), 2);
            m.minutes(2);
            E.eq("all there were", m.who(0, 2), 5);
            E.eq("elsewhere", m.of(0, 2), 5);
            // tearWeb() wrote two lines: it took, it was torn
            E.eq("nothing the third time", m.look(9), 4);
        });
    }

    private static void takeNothing8() {
        E.says(8, "(none: nothing more, tears is not asked)", m -> {
            m.web(0, 5);
            m.gatherer(0);
            m.set(0, 0, 9);
            m.set(1, 0, 40);
            Check.tell(m, 0, "tears 1000;");
            Check.tell(m, 1, "at 0 gatherer 0 take 1;");
            m.minutes(1);
            E.eq("not torn", m.of(0, 3), 0);
            E.eq("no draw", m.look(10), 0);
            E.eq("no line in the book", m.look(9), 0);
            E.eq("its beads stay", m.of(0, 2), 9);
        });
        E.says(8, "that is not TORN and has BEADS (none: nothing)", m -> {
            m.web(0, 5);
            m.gatherer(0);
            Check.tell(m, 0, "tears 1000;");
            Check.tell(m, 1, "at 0 gatherer 0 take 1;");
            m.minutes(1);
            E.eq("not torn", m.of(0, 3), 0);
            E.eq("no draw", m.look(10), 0);
            E.eq("no line in the book", m.look(9), 0);
        });
        E.says(8, "is it above 0, a DRAW of 1000: below it it is TORN", m -> {
            m.web(0, 30);
            m.gatherer(0);
            m.set(0, 0, 9);
            Check.tell(m, 1, "at 0 gatherer 0 take 1;at 1 gatherer 0 take 1;at 2 gatherer 0 take 1;");
            Check.tell(m, 0, "tears 0 when minute = 0;tears 563 when minute = 1;tears 1000;");
            m.minutes(1);
            E.eq("no draw", m.look(10), 0);
            m.minutes(1);
            E.eq("a draw", m.look(10), 1013904223);
            E.eq("563 is not below 563", m.of(0, 3), 0);
            m.minutes(1);
            E.eq("always below 1000", m.of(0, 3), 1);
        });
    }

    private static void sellByPaths8() {
        E.says(8, "as many as N, as his THIMBLE has and as the MOURNER NEEDS", m -> {
            int[][] cases = {{40, 99, 40, 40}, {40, 99, 1, 1}, {3, 99, 9, 3}, {40, 3, 9, 3}, {7, 7, 7, 7}, {0, 9, 9, 0}, {9, 0, 9, 0}};
            for (int[] each : cases) {
                DewMarket one = new DewMarket();
                one.gatherer(19);
                one.mourner(19, each[1], 9);
                one.set(1, 0, each[0]);
                Check.tell(one, 1, "at 0 gatherer 0 sell 0 " + each[2] + ";");
                E.eq("wept", one.minutes(1), each[3]);
                E.eq("thimble", one.who(0, 2), each[0] - each[3]);
                E.eq("purse", one.who(0, 3), 9 * each[3]);
                E.eq("need", one.weeper(0, 1), each[1] - each[3]);
                E.eq("wept", one.weeper(0, 4), each[3]);
                E.eq("in the book if above 0", one.look(9), each[3] > 0 ? 1 : 0);
            }
        });
        E.says(8, "they go from the THIMBLE, NEED so many less, WEPT so many more, PURSE PAYS for each more", m -> {
            m.gatherer(0);
            m.gatherer(0);
            m.mourner(0, 99, 9);
            m.mourner(0, 99, 1);
            m.set(1, 1, 40);
            Check.tell(m, 1, "at 0 gatherer 1 sell 0 40;at 0 gatherer 1 sell 1 40;");
            E.eq("wept", m.minutes(1), 40);
            E.eq("all his beads", m.who(1, 2), 0);
            E.eq("nine for each", m.who(1, 3), 360);
            E.eq("the other gatherer's purse", m.who(0, 3), 0);
            E.eq("need", m.weeper(0, 1), 59);
            E.eq("wept", m.weeper(0, 4), 40);
            E.eq("none are left for the other", m.weeper(1, 4), 0);
        });
        E.says(8, "to a MOURNER at his PLACE (where he stands then)", m -> {
            m.gatherer(3);
            m.mourner(3, 9, 1);
            m.mourner(4, 9, 1);
            m.set(1, 0, 9);
            Check.tell(m, 1, "at 0 gatherer 0 go 4;at 0 gatherer 0 sell 1 1;at 0 gatherer 0 sell 0 2;"
                    + "at 1 gatherer 0 sell 0 1;at 1 gatherer 0 sell 1 3;");
            E.eq("he goes behind it", m.minutes(1), 2);
            E.eq("where he stands", m.weeper(0, 4), 2);
            E.eq("he has gone", m.minutes(1), 3);
            E.eq("where he stands", m.weeper(1, 4), 3);
        });
    }

    /** Web 0 has beads and is torn by the first bead that is taken; the others have what is told. */
    private static DewMarket shaken(int beads, String near, int... spun) {
        DewMarket m = new DewMarket();
        m.web(0, 30);
        for (int each : spun) {
            m.web(1, each);
        }
        m.gatherer(0);
        m.set(0, 0, beads + 1);
        Check.tell(m, 3, near);
        Check.tell(m, 0, "tears 1000;");
        m.act(1, 0, 1);
        E.eq("torn", m.of(0, 3), 1);
        E.eq("it has 0", m.of(0, 2), 0);
        E.eq("beads it had then", m.book(1, 3), beads);
        return m;
    }

    private static void shake8() {
        E.says(8, "half of them (downwards), by how many WEBS are near it and not TORN (downwards): so many go to each of these", m -> {
            String three = "web 0 near 1;web 2 near 0;web 0 near 3;";
            int[][] cases = {{0, 0}, {1, 0}, {5, 0}, {6, 1}, {7, 1}, {11, 1}, {12, 2}, {89, 14}};
            for (int[] each : cases) {
                DewMarket one = shaken(each[0], three, 30, 30, 30, 30);
                for (int web = 1; web <= 3; web++) {
                    E.eq("of " + each[0] + " to each", one.of(web, 2), each[1]);
                }
                E.eq("none to one that is not near", one.of(4, 2), 0);
                E.eq("lost of " + each[0], one.look(7), each[0] - 3 * each[1]);
            }
            DewMarket alone = shaken(7, "web 1 near 0;web 0 near 1;", 30);
            E.eq("to one alone", alone.of(1, 2), 3);
            E.eq("lost", alone.look(7), 4);
        });
        E.says(8, "all that are on no WEB then are LOST (none near: all); it has 0", m -> {
            DewMarket one = shaken(9, "", 30);
            E.eq("all lost", one.look(7), 9);
            E.eq("none to the other", one.of(1, 2), 0);
            E.eq("none of none", shaken(0, "", 30).look(7), 0);
        });
    }

    private static void shakeToFew8() {
        E.says(8, "so many go to each of these (3 times SPUN at most)", m -> {
            DewMarket one = shaken(40, "web 0 near 1;web 0 near 2;", 2, 30);
            E.eq("full", one.of(1, 2), 6);
            E.eq("its share", one.of(2, 2), 10);
            E.eq("what found no room is lost", one.look(7), 24);
        });
        E.says(8, "so many go to each of these", m -> {
            for (int i = 0; i < 12; i++) {
                m.web(i, 30);
            }
            m.gatherer(5);
            m.set(0, 5, 81);
            Check.tell(m, 3, "web 0 near 5;web 5 near 11;web 1 near 5;web 10 near 5;");
            Check.tell(m, 0, "tears 1000;");
            m.act(1, 0, 1);
            int[] due = {10, 10, 0, 0, 0, 0, 0, 0, 0, 0, 10, 10};
            for (int web = 0; web < 12; web++) {
                E.eq("web " + web, m.of(web, 2), due[web]);
            }
            E.eq("lost", m.look(7), 40);
        });
        E.says(8, "by how many WEBS are near it and not TORN", m -> {
            for (int i = 0; i < 3; i++) {
                m.web(0, 30);
            }
            m.gatherer(0);
            Edges.tearWeb(m, 1, 0);
            Check.tell(m, 3, "web 0 near 1;web 0 near 2;");
            Check.tell(m, 0, "tears 1000;");
            m.set(0, 0, 13);
            m.act(1, 0, 1);
            E.eq("all of the half to the one", m.of(2, 2), 6);
            E.eq("none to the torn one", m.of(1, 2), 0);
            E.eq("lost", m.look(7), 6);
            m.act(3, 0, 0);
            Edges.tearWeb(m, 2, 0);
            E.eq("torn are 1 and 2", m.look(3), 6);
            m.set(0, 0, 9);
            Check.tell(m, 0, "tears 1000;");
            m.set(1, 0, 0);
            int lost = m.look(7);
            m.act(1, 0, 1);
            E.eq("all near are torn: all lost", m.look(7) - lost, 8);
        });
    }

    private static void walk8() {
        E.says(8, "PLACE one nearer to where he is BOUND for", m -> {
            m.gatherer(18);
            m.gatherer(1);
            m.gatherer(7);
            m.act(0, 0, 19);
            m.act(0, 1, 0);
            m.minutes(1);
            E.eq("up", m.who(0, 0), 19);
            E.eq("down", m.who(1, 0), 0);
            E.eq("stays", m.who(2, 0), 7);
            m.minutes(1);
            E.eq("not beyond", m.who(0, 0), 19);
            E.eq("not beyond", m.who(1, 0), 0);
            m.act(0, 0, 0);
            m.act(0, 1, 19);
            m.minutes(18);
            E.eq("one is left", m.who(0, 0), 1);
            E.eq("one is left", m.who(1, 0), 18);
            m.minutes(1);
            E.eq("there", m.who(0, 0), 0);
            E.eq("there", m.who(1, 0), 19);
        });
    }

    private static void growDry8() {
        E.says(8, "MOURNER by MOURNER whose NEED is above 0: DRY one more. MINUTE is one more.", m -> {
            m.gatherer(0);
            m.mourner(0, 0, 1);
            m.mourner(0, 1, 1);
            m.mourner(0, 99, 1);
            m.set(1, 0, 40);
            Check.tell(m, 1, "at 2 gatherer 0 sell 1 40;");
            m.minutes(5);
            E.eq("no need", m.weeper(0, 3), 0);
            E.eq("till he has wept", m.weeper(1, 3), 2);
            E.eq("always", m.weeper(2, 3), 5);
            E.eq("minute", m.look(8), 5);
            m.set(2, 1, 1);
            m.minutes(1);
            E.eq("again", m.weeper(1, 3), 3);
        });
    }

    private static void book16() {
        E.says(16, "0, 2 if above 0; 1 behind 0", m -> {
            m.web(0, 9);
            m.gatherer(0);
            m.gatherer(0);
            m.mourner(0, 2, 1);
            m.set(0, 0, 2);
            Check.tell(m, 0, "tears 1000;");
            Check.tell(m, 1, "at 3 gatherer 1 sell 0 9;at 3 gatherer 1 take 9;at 3 gatherer 1 take 9;at 3 gatherer 1 sell 0 9;"
                    + "at 3 gatherer 1 sell 0 9;");
            m.minutes(4);
            int[][] due = {{3, 0, 1, 2}, {3, 1, 0, 0}, {3, 2, 1, 2}};
            E.eq("lines", m.look(9), due.length);
            for (int i = 0; i < due.length; i++) {
                for (int what = 0; what <= 3; what++) {
                    E.eq("line " + i + ", " + what, m.book(i, what), due[i][what]);
                }
            }
        });
        E.says(16, "MINUTE, what (0 took, 1 torn, 2 sold), who (0, 2: the GATHERER; 1: the WEB)", m -> {
            for (int i = 0; i < 8; i++) {
                m.web(i < 3 ? 1 : 0, 9);
                m.gatherer(0);
            }
            for (int i = 0; i < 3; i++) {
                m.mourner(0, i, 1);
            }
            m.set(0, 7, 9);
            m.minutes(60);
            Check.tell(m, 0, "tears 1000;");
            m.act(1, 6, 5);
            m.act(2, 6, 2);
            int[][] due = {{60, 0, 6, 5}, {60, 1, 7, 4}, {60, 2, 6, 2}};
            for (int line = 0; line < 3; line++) {
                for (int what = 0; what <= 3; what++) {
                    E.eq("line " + line + ", " + what, m.book(line, what), due[line][what]);
                }
            }
        });
        E.says(16, "1: BEADS it had then, 0, too", m -> {
            m.web(0, 9);
            m.gatherer(0);
            Check.tell(m, 0, "tears 1000;");
            for (int beads = 1; beads <= 3; beads++) {
                m.set(0, 0, beads);
                m.act(1, 0, 1);
                m.act(3, 0, 0);
                E.eq("who", m.book(2 * beads - 1, 2), 0);
                E.eq("behind the taking", m.book(2 * beads - 1, 1), 1);
                E.eq("how much", m.book(2 * beads - 1, 3), beads - 1);
            }
            E.eq("spinning is not written", m.look(9), 6);
        });
    }

    private static void bookIsFull16() {
        E.says(16, "THE BOOK (150 lines; no more then)", m -> {
            m.gatherer(0);
            m.mourner(0, 0, 1);
            for (int i = 0; i < 149; i++) {
                m.set(1, 0, 1);
                m.set(2, 0, 1);
                m.act(2, 0, 0);
            }
            E.eq("149 lines", m.look(9), 149);
            m.set(1, 0, 7);
            m.set(2, 0, 7);
            m.act(2, 0, 0);
            E.eq("150 lines", m.look(9), 150);
            E.eq("the last", m.book(149, 3), 7);
            m.set(1, 0, 9);
            m.set(2, 0, 9);
            E.yes("it is done all the same", m.act(2, 0, 0));
            E.eq("wept", m.weeper(0, 4), 149 + 7 + 9);
            E.eq("no more then", m.look(9), 150);
            E.eq("the last stays", m.book(149, 3), 7);
            E.none("no line behind it", m.book(150, 0));
            m.undo();
            E.eq("undone", m.weeper(0, 4), 149 + 7);
            E.eq("all lines stay", m.look(9), 150);
        });
        E.says(16, "THE BOOK (150 lines; no more then)", m -> {
            m.web(0, 30);
            m.gatherer(0);
            m.mourner(0, 99, 1);
            m.set(0, 0, 90);
            m.set(1, 0, 1);
            m.act(2, 0, 0);
            for (int i = 0; i < 74; i++) {
                m.act(1, 0, 1);
                m.act(2, 0, 0);
            }
            E.eq("149 lines", m.look(9), 149);
            Check.tell(m, 0, "tears 1000;");
            m.act(1, 0, 1);
            E.eq("that it took has room, that it was torn has none", m.look(9), 150);
            E.eq("it took", m.book(149, 1), 0);
            E.eq("it is torn all the same", m.of(0, 3), 1);
            m.undo();
            E.eq("undone", m.look(9), 149);
        });
    }

    private static void goes17() {
        E.says(17, "GOES for n (1 .. 60) MINUTES: BEADS of all WEBS, WEPT of all, PURSES of all, LOST then", m -> {
            m.web(0, 30);
            m.web(1, 1);
            m.gatherer(0);
            m.gatherer(0);
            m.mourner(0, 50, 3);
            m.mourner(0, 50, 5);
            m.set(1, 0, 9);
            m.set(1, 1, 9);
            m.act(2, 0, 0);
            m.set(3, 0, 2);
            m.set(4, 0, 1);
            Check.tell(m, 1, "at 1 gatherer 1 sell 1 4;at 59 gatherer 1 sell 1 1;");
            E.eq("beads behind one", m.goes(1, 0), 2);
            E.eq("beads behind two", m.goes(2, 0), 4);
            E.eq("beads behind sixty", m.goes(60, 0), 60 + 2);
            E.eq("wept behind one", m.goes(1, 1), 9);
            E.eq("wept behind two", m.goes(2, 1), 13);
            E.eq("wept behind 59", m.goes(59, 1), 13);
            E.eq("wept behind sixty", m.goes(60, 1), 14);
            E.eq("purses behind one", m.goes(1, 2), 27);
            E.eq("purses behind sixty", m.goes(60, 2), 27 + 25);
            E.eq("lost behind one", m.goes(1, 3), 2);
            E.eq("lost behind sixty", m.goes(60, 3), 120);
        });
        E.says(17, "NONE if one can't be, or another what.", m -> {
            for (int what = 0; what <= 3; what++) {
                E.none("no minutes", m.goes(0, what));
                E.none("61", m.goes(61, what));
                E.none("below 0", m.goes(-1, what));
                E.none("MIN", m.goes(MIN, what));
                E.none("MAX", m.goes(MAX, what));
                E.eq("bare", m.goes(60, what), 0);
            }
            E.none("another what", m.goes(1, -1));
            E.none("another what", m.goes(1, 4));
            E.none("another what", m.goes(1, MIN));
            E.none("another what", m.goes(1, MAX));
        });
    }

    private static DewMarket thinking(String law) {
        DewMarket m = new DewMarket();
        m.web(0, 30);
        m.web(0, 30);
        m.gatherer(0);
        m.mourner(0, 9, 1);
        m.set(0, 0, 9);
        Check.tell(m, 0, law);
        Check.tell(m, 1, "at 0 gatherer 0 take 1;at 0 gatherer 0 sell 0 1;at 0 gatherer 0 go 5;");
        Check.tell(m, 2, "at 0 wind 1;at 0 mist 0;");
        return m;
    }

    private static void goesWithoutDraws17() {
        E.says(17, "no DRAWS: it is torn, if tears is 500 at least", m -> {
            int[] tears = {0, 1, 499, 500, 501, 1000};
            for (int each : tears) {
                DewMarket one = thinking("tears " + each + ";");
                // state 0 draws 563 first, -1 another; neither matters
                E.eq("lost by " + each, one.goes(1, 3), each >= 500 ? 8 : 0);
                one.state(-1);
                E.eq("lost by " + each, one.goes(1, 3), each >= 500 ? 8 : 0);
                E.eq("no draw", one.look(10), -1);
            }
        });
        E.says(17, "nothing of it stays", m -> {
            DewMarket one = thinking("tears 1000;forms 3;");
            one.minutes(1);
            Check.tell(one, 1, "at 1 gatherer 0 take 1;at 2 gatherer 0 sell 0 1;");
            one.minutes(1);
            List<Integer> before = Edges.all(one);
            for (int what = 0; what <= 3; what++) {
                one.goes(60, what);
            }
            one.weeps(0);
            E.same("all is as it was", Edges.all(one), before);
        });
        E.says(17, "nothing of it stays", m -> {
            m.gatherer(0);
            m.mourner(0, 0, 1);
            Check.tell(m, 1, "at 0 gatherer 0 sell 0 1;");
            for (int i = 0; i < 150; i++) {
                m.set(1, 0, 1);
                m.set(2, 0, 1);
                m.act(2, 0, 0);
            }
            m.set(1, 0, 1);
            m.set(2, 0, 1);
            E.eq("with a full book, too", m.goes(1, 1), 151);
            E.eq("no line", m.look(9), 150);
        });
    }

    private static void goesFar17() {
        E.says(17, "GOES for n (1 .. 60) MINUTES", m -> {
            m.mourner(0, 1, 1);
            m.web(0, 30);
            for (int i = 0; i < 166; i++) {
                m.minutes(60);
            }
            m.minutes(39);
            m.set(3, 0, 1);
            // NONE is answered if MINUTE would be above 9999 by minutes() alone
            E.eq("beyond the last minute", m.goes(60, 0), 60);
            E.none("not within sixty", m.weeps(0));
            E.eq("nothing stays", m.look(8), 9999);
        });
    }

    private static void weeps18() {
        E.says(18, "behind how many MINUTES his NEED is 0 (0: now; NONE: not within 60)", m -> {
            m.gatherer(0);
            for (int i = 0; i < 6; i++) {
                m.mourner(0, i == 0 ? 0 : 2, 1);
            }
            m.set(1, 0, 40);
            Check.tell(m, 1, "at 0 gatherer 0 sell 1 2;at 0 gatherer 0 sell 2 1;at 1 gatherer 0 sell 2 1;"
                    + "at 59 gatherer 0 sell 3 2;at 60 gatherer 0 sell 4 2;");
            E.eq("now", m.weeps(0), 0);
            E.eq("behind one", m.weeps(1), 1);
            E.eq("behind two", m.weeps(2), 2);
            E.eq("behind sixty", m.weeps(3), 60);
            E.none("behind 61", m.weeps(4));
            E.none("never", m.weeps(5));
            m.minutes(1);
            E.eq("now", m.weeps(1), 0);
            E.eq("one less", m.weeps(2), 1);
            E.eq("behind sixty", m.weeps(4), 60);
        });
        E.says(18, "WEEPS; NONE, too, if there is none such.", m -> {
            E.none("no mourners", m.weeps(0));
            m.mourner(0, 0, 1);
            E.eq("he", m.weeps(0), 0);
            E.none("before the first", m.weeps(-1));
            E.none("behind the last", m.weeps(1));
            E.none("far off", m.weeps(MIN));
            E.none("far off", m.weeps(MAX));
        });
        E.says(18, "no DRAWS: it is torn, if tears is 500 at least", m -> {
            m.web(0, 30);
            m.gatherer(0);
            m.mourner(0, 4, 1);
            m.set(0, 0, 9);
            Check.tell(m, 1, "at 0 gatherer 0 take 2;at 1 gatherer 0 take 2;at 1 gatherer 0 sell 0 4;");
            Check.tell(m, 0, "tears 499;");
            E.eq("not torn", m.weeps(0), 2);
            Check.tell(m, 0, "tears 500;");
            E.none("torn", m.weeps(0));
        });
    }
}
