/** At least one test for each promise of the document, worked out by hand. */
public final class PromiseTests {
    private static final int NONE = DewMarket.NONE;
    private static final int MIN = Integer.MIN_VALUE;
    private static final int MAX = Integer.MAX_VALUE;
    private static final Check CHECK = new Check();

    private static void eq(String what, long got, long want) {
        CHECK.eq(what, got, want);
    }

    private static void yes(String what, boolean got) {
        CHECK.yes(what, got);
    }

    private static void no(String what, boolean got) {
        CHECK.no(what, got);
    }

    public static void main(String[] args) {
        newObject1();
        state2();
        web3();
        gatherer4();
        mourner5();
        set6();
        act7();
        drawsAtTheEdge7();
        minutes8();
        feedAndEnd9And10();
        text11();
        fault12();
        faultsOfTheLaw12();
        faultsOfThePlans12();
        of13();
        law13();
        who14AndWeeper15();
        book16();
        bookIsFull16();
        goes17();
        weeps18();
        claims19();
        threads20And21();
        square22And23();
        marks24And25();
        chords26And27();
        round28And29();
        ones30();
        order31And32();
        stack33And34();
        strung35();
        runs36And37();
        leaks38And39();
        colours40();
        game41();
        undo42();
        undoForgets42();
        image43();
        look44();
        CHECK.close("PromiseTests");
    }

    private static void newObject1() {
        DewMarket m = new DewMarket();
        for (int what = 0; what <= 15; what++) {
            eq("1: look(" + what + ")", m.look(what), 0);
        }
        eq("1: NONE", DewMarket.NONE, -1);
        no("1: undo", m.undo());
        no("1: image", m.image(false));
        eq("1: fault", m.fault(0), 0);
        eq("1: fault's place", m.fault(1), NONE);
    }

    private static void state2() {
        DewMarket m = new DewMarket();
        eq("2: state", m.state(77), 0);
        eq("2: state", m.state(MIN), 77);
        eq("2: state", m.look(10), MIN);
        // a DRAW with a STATE whose highest bit is set goes without sign
        m = new DewMarket();
        m.web(0, 10);
        m.gatherer(0);
        m.set(0, 0, 10);
        m.set(5, 0, 9);
        m.state(1);
        yes("2: take", m.act(1, 0, 1));
        int state = 1664525 + 1013904223;
        eq("2: state drawn", m.look(10), state);
        eq("2: torn by the draw", m.of(0, 3), (state >>> 8) % 1000 < 900 ? 1 : 0);
    }

    /** From STATE 0 the first DRAW of 1000 is 563. */
    private static void drawsAtTheEdge7() {
        int[] tears = {0, 1, 563, 564, 1000};
        for (int each : tears) {
            DewMarket m = new DewMarket();
            m.web(0, 10);
            m.gatherer(0);
            m.set(0, 0, 10);
            Check.tell(m, 0, "tears " + each + ";");
            m.act(1, 0, 1);
            eq("7: torn by " + each, m.of(0, 3), each > 563 ? 1 : 0);
            eq("7: a draw for " + each, m.look(10), each > 0 ? 1013904223 : 0);
        }
    }

    private static void web3() {
        DewMarket m = new DewMarket();
        eq("3: place", m.web(-1, 1), NONE);
        eq("3: place", m.web(20, 1), NONE);
        eq("3: spun", m.web(0, 0), NONE);
        eq("3: spun", m.web(0, 31), NONE);
        eq("3: far", m.web(MIN, MAX), NONE);
        for (int i = 0; i < 12; i++) {
            eq("3: web", m.web(i == 0 ? 19 : 0, i == 0 ? 30 : 1), i);
        }
        eq("3: the 13th", m.web(0, 1), NONE);
        eq("3: webs", m.look(0), 12);
        eq("3: place", m.of(0, 0), 19);
        eq("3: spun", m.of(0, 1), 30);
        eq("3: beads", m.of(0, 2), 0);
        eq("3: torn", m.of(0, 3), 0);
    }

    private static void gatherer4() {
        DewMarket m = new DewMarket();
        eq("4: place", m.gatherer(-1), NONE);
        eq("4: place", m.gatherer(20), NONE);
        for (int i = 0; i < 8; i++) {
            eq("4: gatherer", m.gatherer(19 - i), i);
        }
        eq("4: the ninth", m.gatherer(0), NONE);
        eq("4: place", m.who(7, 0), 12);
        eq("4: bound for where he is", m.who(7, 1), 12);
        eq("4: gatherers", m.look(1), 8);
    }

    private static void mourner5() {
        DewMarket m = new DewMarket();
        eq("5: place", m.mourner(20, 0, 1), NONE);
        eq("5: place", m.mourner(-1, 0, 1), NONE);
        eq("5: need", m.mourner(0, -1, 1), NONE);
        eq("5: need", m.mourner(0, 100, 1), NONE);
        eq("5: pays", m.mourner(0, 0, 0), NONE);
        eq("5: pays", m.mourner(0, 0, 10), NONE);
        for (int i = 0; i < 10; i++) {
            eq("5: mourner", m.mourner(19, 99, 9), i);
        }
        eq("5: the eleventh", m.mourner(0, 0, 1), NONE);
        eq("5: mourners", m.look(2), 10);
    }

    private static void set6() {
        DewMarket m = new DewMarket();
        no("6: no web", m.set(0, 0, 0));
        no("6: no gatherer", m.set(1, 0, 0));
        no("6: no mourner", m.set(2, 0, 0));
        m.web(0, 2);
        m.gatherer(0);
        m.mourner(0, 0, 1);
        yes("6: beads", m.set(0, 0, 6));
        no("6: beads", m.set(0, 0, 7));
        no("6: beads", m.set(0, 0, -1));
        no("6: no such web", m.set(0, 1, 0));
        no("6: no such web", m.set(0, -1, 0));
        yes("6: thimble", m.set(1, 0, 40));
        no("6: thimble", m.set(1, 0, 41));
        yes("6: need", m.set(2, 0, 99));
        no("6: need", m.set(2, 0, 100));
        yes("6: mist", m.set(3, MIN, 9));
        yes("6: sun", m.set(4, 99, 8));
        yes("6: wind", m.set(5, -7, 7));
        for (int what = 3; what <= 5; what++) {
            no("6: sky", m.set(what, 0, 10));
            no("6: sky", m.set(what, 0, -1));
        }
        no("6: another what", m.set(6, 0, 0));
        no("6: another what", m.set(-1, 0, 0));
        eq("6: beads", m.of(0, 2), 6);
        eq("6: thimble", m.who(0, 2), 40);
        eq("6: need", m.weeper(0, 1), 99);
        eq("6: mist", m.look(4), 9);
        eq("6: sun", m.look(5), 8);
        eq("6: wind", m.look(6), 7);
        m.set(1, 0, 0);
        Check.tell(m, 0, "tears 1000;");
        m.act(1, 0, 1);
        no("6: beads of a torn web", m.set(0, 0, 1));
        no("6: beads of a torn web", m.set(0, 0, 0));
    }

    private static void act7() {
        DewMarket m = new DewMarket();
        m.web(3, 5);
        m.web(3, 5);
        m.gatherer(3);
        m.mourner(3, 4, 5);
        m.mourner(4, 4, 5);
        no("7: no such gatherer", m.act(0, 1, 5));
        no("7: no such place", m.act(0, 0, 20));
        no("7: no such place", m.act(0, 0, -1));
        no("7: bound for it already", m.act(0, 0, 3));
        yes("7: sent", m.act(0, 0, 0));
        yes("7: sent to where he is", m.act(0, 0, 3));
        no("7: nothing to take", m.act(1, 0, 1));
        m.set(0, 1, 9);
        no("7: none", m.act(1, 0, 0));
        no("7: too many", m.act(1, 0, 41));
        no("7: no such gatherer", m.act(1, -1, 1));
        yes("7: taken", m.act(1, 0, 4));
        eq("7: from the least that has", m.of(1, 2), 5);
        eq("7: thimble", m.who(0, 2), 4);
        eq("7: no draw without tears", m.look(10), 0);
        m.set(1, 0, 38);
        yes("7: as there is room for", m.act(1, 0, 40));
        eq("7: room", m.who(0, 2), 40);
        eq("7: room", m.of(1, 2), 3);
        no("7: no room", m.act(1, 0, 1));
        no("7: no such mourner", m.act(2, 0, 2));
        no("7: not at his place", m.act(2, 0, 1));
        yes("7: sold", m.act(2, 0, 0));
        eq("7: thimble", m.who(0, 2), 36);
        eq("7: purse", m.who(0, 3), 20);
        eq("7: need", m.weeper(0, 1), 0);
        eq("7: wept", m.weeper(0, 4), 4);
        no("7: no need", m.act(2, 0, 0));
        m.set(1, 0, 0);
        m.set(2, 0, 5);
        no("7: thimble empty", m.act(2, 0, 0));
        no("7: not torn", m.act(3, 0, 0));
        no("7: no such web", m.act(3, 2, 0));
        Check.tell(m, 0, "tears 2000;");
        m.act(1, 0, 40);
        eq("7: torn", m.of(1, 3), 1);
        eq("7: no beads to shake off", m.look(7), 0);
        yes("7: spun", m.act(3, 1, MIN));
        eq("7: not torn any more", m.of(1, 3), 0);
        no("7: another what", m.act(4, 0, 0));
        no("7: another what", m.act(-1, 0, 0));
    }

    private static void minutes8() {
        DewMarket m = new DewMarket();
        eq("8: none", m.minutes(0), NONE);
        eq("8: too many", m.minutes(61), NONE);
        eq("8: below 0", m.minutes(MIN), NONE);
        m.web(2, 2);
        m.web(4, 30);
        m.web(4, 1);
        m.gatherer(2);
        m.gatherer(6);
        m.mourner(2, 5, 3);
        m.mourner(5, 1, 1);
        m.set(3, 0, 7);
        m.set(4, 0, 2);
        eq("8: NEAR", Check.tell(m, 3, "web 0 near 1; web 2 near 0; web 1 near 0;"), 3);
        eq("8: PATHS", Check.tell(m, 1, "at 0 gatherer 0 go 4; at 0 gatherer 0 take 3; at 0 gatherer 0 sell 0 2;"
                + "at 0 gatherer 0 sell 1 9; at 1 gatherer 0 sell 0 9; at 2 gatherer 1 go 0;"), 6);
        eq("8: SKY", Check.tell(m, 2, "at 1 mist 0; at 1 sun 9; at 1 wind 3; at 1 spin 0; at 0 wind 2;"), 5);
        eq("8: THE LAW", Check.tell(m, 0, "tears 1000 when beads = 1;"), 1);
        eq("8: wept", m.minutes(1), 2);
        // web 0 forms 6 of 7, dries 2: 4; 3 are taken, 1 is left; it is torn, 1 / 2 / 2 = 0 for each: 1 lost
        eq("8: beads", m.of(0, 2), 0);
        eq("8: torn", m.of(0, 3), 1);
        eq("8: beads", m.of(1, 2), 5);
        eq("8: beads", m.of(2, 2), 1);
        eq("8: lost", m.look(7), 2 + 2 + 2 + 1);
        eq("8: he goes one place", m.who(0, 0), 3);
        eq("8: bound", m.who(0, 1), 4);
        eq("8: thimble", m.who(0, 2), 1);
        eq("8: purse", m.who(0, 3), 6);
        eq("8: need", m.weeper(0, 1), 3);
        eq("8: dry", m.weeper(0, 3), 1);
        eq("8: dry", m.weeper(1, 3), 1);
        eq("8: minute", m.look(8), 1);
        eq("8: wind by the sky", m.look(6), 2);
        eq("8: state", m.look(10), 1013904223);
        eq("8: nobody is at his place", m.minutes(1), 0);
        eq("8: spun by the sky", m.of(0, 3), 0);
        eq("8: dried", m.of(1, 2), 0);
        eq("8: lost those that were there", m.look(7), 7 + 5 + 1);
        eq("8: there", m.who(0, 0), 4);
        m.minutes(2);
        eq("8: stays", m.who(0, 0), 4);
        eq("8: goes down", m.who(1, 0), 4);
        shaking8();
        for (int i = 0; i < 166; i++) {
            m.minutes(60);
        }
        eq("8: minute", m.look(8), 9964);
        eq("8: beyond", m.minutes(36), NONE);
        eq("8: nothing is done", m.look(8), 9964);
        eq("8: the last", m.minutes(35), 0);
        eq("8: beyond", m.minutes(1), NONE);
    }

    private static void shaking8() {
        DewMarket m = new DewMarket();
        m.web(0, 30);
        m.web(1, 1);
        m.web(2, 30);
        m.web(3, 30);
        m.gatherer(0);
        m.gatherer(3);
        m.set(0, 0, 40);
        m.set(0, 3, 5);
        Check.tell(m, 3, "web 0 near 1;web 0 near 2;web 0 near 3;web 3 near 1;");
        Check.tell(m, 0, "tears 1000;");
        m.act(1, 1, 1);
        // 4 beads of web 3: 2 / 2 = 1 to webs 0 and 1
        eq("8: shaken", m.of(0, 2), 41);
        eq("8: shaken", m.of(1, 2), 1);
        eq("8: lost", m.look(7), 2);
        m.act(1, 0, 2);
        // 39 beads of web 0: 19 / 2 = 9 to webs 1 (room for 2) and 2; web 3 is torn
        eq("8: no more than it holds", m.of(1, 2), 3);
        eq("8: shaken", m.of(2, 2), 9);
        eq("8: nothing to a torn one", m.of(3, 2), 0);
        eq("8: lost", m.look(7), 2 + 39 - 2 - 9);
        eq("8: those torn", m.look(3), 9);
    }

    private static void feedAndEnd9And10() {
        DewMarket m = new DewMarket();
        for (int i = 1; i <= 20; i++) {
            eq("9: feed", m.feed(MIN, MAX, -1, 0, 0x20202020), 20 * i);
        }
        eq("9: full", m.feed(0, 0, 0, 0, 0), NONE);
        no("10: not so many", m.end(401));
        no("10: below 0", m.end(-1));
        yes("10: all", m.end(400));
        yes("10: less", m.end(381));
        eq("9: no room for twenty", m.feed(0, 0, 0, 0, 0), NONE);
        yes("10: less", m.end(380));
        eq("9: room", m.feed(0, 0, 0, 0, 0), 400);
        yes("10: none", m.end(0));
        no("10: none left", m.end(1));
        // "at 7 mist 5 ;" with the highest byte of each number first
        m.feed(0x61742037, 0x206d6973, 0x74203520, 0x3b202020, 0x20202020);
        eq("9: read", m.text(2), 1);
    }

    private static void text11() {
        DewMarket m = new DewMarket();
        eq("11: empty", m.text(0), 0);
        Check.tape(m, "forms 1;");
        eq("11: no such one", m.text(4), NONE);
        eq("11: tells 0", m.fault(0), 0);
        eq("11: tells no place", m.fault(1), NONE);
        no("11: empty then", m.end(1));
        eq("11: no such one", m.text(-1), NONE);
        eq("11: lines", Check.tell(m, 0, "forms 1;dries\n2 ;tears 3when 1=1;"), 3);
        eq("11: lines", m.look(11), 3);
        no("11: empty then", m.end(1));
        CHECK.faulty(m, 0, "forms 1", 1, 7);
        no("11: empty with a FAULT, too", m.end(1));
        eq("11: it stays as it was", m.look(11), 3);
        eq("11: empty", m.text(0), 0);
        eq("11: empty", m.look(11), 0);
        m.web(0, 1);
        m.web(0, 1);
        m.gatherer(0);
        m.mourner(0, 0, 1);
        eq("11: PATHS", Check.tell(m, 1, "at 999 gatherer 0 go 19;at 0 gatherer 0 take 40;at 0 gatherer 0 sell 0 1;"), 3);
        eq("11: SKY", Check.tell(m, 2, "at 999 mist 9;at 0 sun 0;at 0000 wind 0009;at 1 spin 1;"), 4);
        eq("11: NEAR told twice", Check.tell(m, 3, "web 0 near 1;web 1 near 0;web 0 near 1;"), 3);
        eq("11: near", m.of(0, 7), 2);
        eq("11: near", m.of(1, 7), 1);
        eq("11: NEAR anew", Check.tell(m, 3, ""), 0);
        eq("11: near", m.of(0, 7), 0);
        eq("11: sixteen lines", Check.tell(m, 0, "forms 1;".repeat(16)), 16);
        eq("11: sixteen lines", Check.tell(m, 1, "at 1gatherer 0go 1;".repeat(16)), 16);
        eq("11: sixteen lines", Check.tell(m, 2, "at 1 spin 1;".repeat(16)), 16);
        eq("11: sixteen lines", Check.tell(m, 3, "web 0 near 1;".repeat(16)), 16);
    }

    private static void fault12() {
        DewMarket m = new DewMarket();
        CHECK.faulty(m, 0, "forms ;", 1, 6);
        eq("12: another what", m.fault(2), NONE);
        eq("12: another what", m.fault(-1), NONE);
        m.text(0);
        eq("12: without one", m.fault(0), 0);
        eq("12: without one", m.fault(1), NONE);
        m.web(0, 1);
        m.web(0, 1);
        m.gatherer(0);
        m.mourner(0, 0, 1);
        CHECK.faulty(m, 0, "forms 1;".repeat(17), 3, 128);
        CHECK.faulty(m, 0, "forms 1;".repeat(16) + "web", 1, 128);
        CHECK.faulty(m, 0, "forms 1;".repeat(16) + " dries", 3, 129);
        CHECK.faulty(m, 1, "at 1gatherer 0go 1;".repeat(17), 3, 304);
        CHECK.faulty(m, 2, "at 1 spin 1;".repeat(17), 3, 192);
        CHECK.faulty(m, 2, "at 1 spin 1;".repeat(16) + ";", 1, 192);
        CHECK.faulty(m, 3, "web 0 near 1;".repeat(17), 3, 208);
    }

    private static void faultsOfTheLaw12() {
        DewMarket m = new DewMarket();
        String[] outOfPlace = {
            "|formsz 1;", "|formsa 1;", "|formsA 1;", "|formsZ 1;", "forms|@ 1;", "forms|[ 1;", "forms|` 1;", "forms|{ 1;",
            "forms 1|:;", "|;", "|when", "|1;", "|Forms 1;", "|formss 1;", "forms |\t1;", "forms |\u00e9;", "forms 1 |2;",
            "forms |12345;", "forms |00001;", "forms beads / |beads;", "forms 1 + |;", "forms 1 * |* 2;", "forms |-1;",
            "forms |(1);", "forms 1 when |;", "forms 1 when 1 |;", "forms 1 when (1 |);", "forms 1 when (1=1|;",
            "forms 1 when 1=1|);", "forms 1 when 1=1 or |;", "forms 1 when 1=|not 1=1;", "forms 1 when 1=1 |= 1;",
            "forms 1 when 1 < |< 1;", "forms |web;", "forms |at;", "forms 1 |and 1=1;", "forms 1|", "forms 1 when not |",
            "forms 1 when not 1=1 and |or;", "forms 1 when 1=1 when| 1=1;".replace("when|", "|when"), "forms 1;|;"
        };
        for (String told : outOfPlace) {
            int place = told.indexOf('|');
            CHECK.faulty(m, 0, told.replace("|", ""), 1, place);
        }
        CHECK.faulty(m, 0, "forms 1   \n", 1, 11);
        CHECK.faulty(m, 0, "forms 4/0;", 2, 8);
        CHECK.faulty(m, 0, "forms 4/0000+;", 2, 8);
        CHECK.faulty(m, 0, "forms 4+;dries 1/0;", 1, 8);
        CHECK.faulty(m, 0, "forms 1 when 1=1/0;", 2, 17);
        CHECK.faulty(m, 0, "forms 1 when " + "(".repeat(9), 3, 21);
        CHECK.faulty(m, 0, "forms 1 when " + "not(".repeat(4) + "not 1=1;", 3, 29);
        CHECK.faulty(m, 0, "forms 1 when " + "(".repeat(8) + "1", 1, 22);
        String deep = "not(".repeat(4) + "1=1" + ")".repeat(4);
        eq("12: a whole tape", Check.tell(m, 0, "forms 1" + "+1".repeat(196) + ";"), 1);
        CHECK.faulty(m, 0, "forms 1" + "+1".repeat(196) + "+", 1, 400);
        CHECK.faulty(m, 0, ";".repeat(400), 1, 0);
        eq("12: eight open", Check.tell(m, 0, "forms 1 when " + deep + " and " + deep + "or not " + "1=1;"), 1);
        eq("12: not is shut again", Check.tell(m, 0, "forms 1 when not 1=1" + " or not 1=1".repeat(20) + ";"), 1);
    }

    private static void faultsOfThePlans12() {
        DewMarket m = new DewMarket();
        CHECK.faulty(m, 1, "at 0 gatherer 0 go 1;", 2, 14);
        CHECK.faulty(m, 2, "at 0 spin 0;", 2, 10);
        CHECK.faulty(m, 3, "web 0 near 0;", 2, 4);
        m.web(0, 1);
        m.web(0, 1);
        m.gatherer(0);
        m.mourner(0, 0, 1);
        CHECK.faulty(m, 1, "at 1000 gatherer 0 go 1;", 2, 3);
        CHECK.faulty(m, 1, "at 0 gatherer 0 go 20;", 2, 19);
        CHECK.faulty(m, 1, "at 0 gatherer 0 take 0;", 2, 21);
        CHECK.faulty(m, 1, "at 0 gatherer 0 take 41;", 2, 21);
        CHECK.faulty(m, 1, "at 0 gatherer 0 sell 1 1;", 2, 21);
        CHECK.faulty(m, 1, "at 0 gatherer 0 sell 0 41;", 2, 23);
        CHECK.faulty(m, 1, "at 0 gatherer 0 sell 0;", 1, 22);
        CHECK.faulty(m, 1, "at 0 gatherer 0 go 1 1;", 1, 21);
        CHECK.faulty(m, 1, "at 0 gatherer 0 spin 1;", 1, 16);
        CHECK.faulty(m, 1, "at gatherer 0 go 1;", 1, 3);
        CHECK.faulty(m, 1, "at 0 gatherer 0 go 1", 1, 20);
        CHECK.faulty(m, 2, "at 0 mist 10;", 2, 10);
        CHECK.faulty(m, 2, "at 0 spin 2;", 2, 10);
        CHECK.faulty(m, 2, "at 0 take 2;", 1, 5);
        CHECK.faulty(m, 2, "at 1000 go 2;", 2, 3);
        CHECK.faulty(m, 3, "web 0 near 0;", 2, 11);
        CHECK.faulty(m, 3, "web 2 near 2;", 2, 4);
        CHECK.faulty(m, 3, "web 1 near 12345;", 1, 11);
        CHECK.faulty(m, 3, "web 1 web 0;", 1, 6);
        CHECK.faulty(m, 3, "near 1 web 0;", 1, 0);
    }

    private static void of13() {
        DewMarket m = new DewMarket();
        eq("13: no web", m.of(0, 0), NONE);
        m.web(7, 3);
        m.web(8, 3);
        m.set(0, 0, 4);
        m.set(3, 0, 1);
        m.set(4, 0, 2);
        m.set(5, 0, 3);
        Check.tell(m, 3, "web 1 near 0;");
        int[] due = {7, 3, 4, 0, 1, 2, 300, 2};
        for (int what = 0; what < due.length; what++) {
            eq("13: of(0, " + what + ")", m.of(0, what), due[what]);
        }
        eq("13: another what", m.of(0, 8), NONE);
        eq("13: another what", m.of(0, -1), NONE);
        eq("13: no such web", m.of(2, 0), NONE);
        eq("13: no such web", m.of(-1, 0), NONE);
    }

    private static void law13() {
        DewMarket m = new DewMarket();
        m.web(7, 3);
        m.web(8, 30);
        m.web(9, 3);
        m.gatherer(7);
        m.set(0, 0, 4);
        m.set(3, 0, 5);
        m.set(4, 0, 6);
        m.set(5, 0, 7);
        Check.tell(m, 3, "web 0 near 1;web 0 near 2;");
        String[] sums = {
            "beads", "spun", "place", "near", "torn", "mist", "sun", "wind", "minute",
            "2+3*4", "2*3+4", "20-3-4", "20-3+4", "17/5*2", "2*17/5", "20-17/5", "0-7/2+9", "(", "9999*9999*9999", "9999*9999",
            "0-1", "21", "20", "1*0", "9-2*3-1"
        };
        int[] due = {4, 3, 7, 2, 0, 5, 6, 7, 0, 14, 10, 13, 20, 6, 6, 17, 6, NONE, 0, 20, 0, 20, 20, 0, 2};
        for (int i = 0; i < sums.length; i++) {
            if (due[i] == NONE) {
                CHECK.faulty(m, 0, "forms " + sums[i] + ";", 1, 6);
            } else {
                Check.tell(m, 0, "forms " + sums[i] + ";");
                eq("13: forms " + sums[i], m.of(0, 4), due[i]);
            }
        }
        Check.tell(m, 0, "forms 10 + 0*1 when 0 - 7 < 0; tears 9999*9999*9999*9999*99;dries 9999*9999*9999;");
        eq("13: a condition", m.of(0, 4), 10);
        eq("13: ints, which wrap", m.of(0, 6), clamp(9999 * 9999 * 9999 * 9999 * 99, 1000));
        eq("13: ints, which wrap", m.of(0, 5), clamp(9999 * 9999 * 9999, 20));
        // the product wraps below 0 and is no multiple of 3
        Check.tell(m, 0, "forms 1 when 9999*9999*30/3*3 > 9999*9999*30; forms 2;");
        eq("13: / goes towards 0", m.of(0, 4), 1);
        law13Lines(m);
        String[] so = {
            "1=1", "not 1=2", "not not 1=1", "1=2 or 1=1 and 2=2", "1=1 or 1=1 and 1=2", "(1=2 or 1=1) and 2=2",
            "not (1=2 and 1=1)", "not 1=2 and 1=1", "1<2", "2>1", "1+1=2*1", "beads=4 and spun=3 and near=2",
            "1=2 and 1=2 or 1=1", "1=1 or 1=2 or 1=2", "not (not (not 1=2))"
        };
        for (String condition : so) {
            Check.tell(m, 0, "forms 1 when " + condition + "; forms 2;");
            eq("13: so is " + condition, m.of(0, 4), 1);
            Check.tell(m, 0, "forms 1 when not (" + condition + "); forms 2;");
            eq("13: so is not " + condition, m.of(0, 4), 2);
        }
    }

    private static void law13Lines(DewMarket m) {
        Check.tell(m, 0, "dries 3; forms 1 when beads > 4; forms 2 when beads = 4; forms 3; dries 9;");
        eq("13: the first line that is so", m.of(0, 4), 2);
        eq("13: the first line that is so", m.of(1, 4), 3);
        eq("13: the first line", m.of(0, 5), 3);
        eq("13: no line", m.of(0, 6), 700);
        Check.tell(m, 0, "tears 5 when minute > 0;forms near;");
        eq("13: no line is so", m.of(0, 6), 700);
        eq("13: of another web", m.of(2, 4), 1);
        m.minutes(1);
        eq("13: minute", m.of(0, 6), 5);
        Check.tell(m, 0, "tears 1000;");
        m.set(0, 0, 3);
        m.act(1, 0, 1);
        Check.tell(m, 0, "forms torn;dries near;");
        eq("13: torn", m.of(1, 4), 1);
        eq("13: of a torn one, too", m.of(0, 4), 1);
        eq("13: near a torn one", m.of(1, 5), 1);
        m.act(3, 0, 0);
        m.set(0, 0, 4);
    }

    private static int clamp(int v, int most) {
        return Math.max(0, Math.min(most, v));
    }

    private static void who14AndWeeper15() {
        DewMarket m = new DewMarket();
        eq("14: none", m.who(0, 0), NONE);
        eq("15: none", m.weeper(0, 0), NONE);
        m.gatherer(5);
        m.mourner(5, 30, 7);
        m.set(1, 0, 8);
        m.act(2, 0, 0);
        m.act(0, 0, 9);
        m.minutes(2);
        int[] who = {7, 9, 0, 56};
        for (int what = 0; what < 4; what++) {
            eq("14: who(0, " + what + ")", m.who(0, what), who[what]);
        }
        int[] weeper = {5, 22, 7, 2, 8};
        for (int what = 0; what < 5; what++) {
            eq("15: weeper(0, " + what + ")", m.weeper(0, what), weeper[what]);
        }
        eq("14: another what", m.who(0, 4), NONE);
        eq("14: another what", m.who(0, -1), NONE);
        eq("14: no such one", m.who(1, 0), NONE);
        eq("14: no such one", m.who(-1, 0), NONE);
        eq("15: another what", m.weeper(0, 5), NONE);
        eq("15: another what", m.weeper(0, -1), NONE);
        eq("15: no such one", m.weeper(1, 0), NONE);
        eq("15: no such one", m.weeper(MIN, 0), NONE);
    }

    private static void book16() {
        DewMarket m = new DewMarket();
        m.web(5, 10);
        m.web(6, 10);
        m.gatherer(0);
        m.gatherer(5);
        m.mourner(5, 3, 1);
        m.set(0, 0, 6);
        Check.tell(m, 0, "tears 1000;");
        Check.tell(m, 1, "at 2 gatherer 1 take 4;at 2 gatherer 1 take 9;at 2 gatherer 1 sell 0 40;at 2 gatherer 1 sell 0 1;");
        m.minutes(3);
        int[][] due = {{2, 0, 1, 4}, {2, 1, 0, 2}, {2, 2, 1, 3}};
        for (int i = 0; i < due.length; i++) {
            for (int what = 0; what < 4; what++) {
                eq("16: book(" + i + ", " + what + ")", m.book(i, what), due[i][what]);
            }
        }
        eq("16: lines", m.look(9), 3);
        eq("16: no such line", m.book(3, 0), NONE);
        eq("16: no such line", m.book(-1, 0), NONE);
        eq("16: another what", m.book(0, 4), NONE);
        eq("16: another what", m.book(0, -1), NONE);
        m.act(3, 0, 0);
        m.set(0, 0, 1);
        m.act(1, 1, 1);
        eq("16: torn with 0", m.book(4, 1), 1);
        eq("16: torn with 0", m.book(4, 3), 0);
        eq("16: by hand, MINUTE", m.book(4, 0), 3);
    }

    private static void bookIsFull16() {
        DewMarket m = new DewMarket();
        m.web(0, 30);
        m.gatherer(0);
        Check.tell(m, 0, "forms 20;");
        StringBuilder paths = new StringBuilder();
        for (int minute = 0; minute < 16; minute++) {
            paths.append("at ").append(minute).append(" gatherer 0 take 1;");
        }
        Check.tell(m, 1, paths.toString());
        for (int i = 0; i < 140; i++) {
            m.set(0, 0, 1);
            m.set(1, 0, 0);
            m.act(1, 0, 1);
        }
        m.minutes(16);
        eq("16: no more then", m.look(9), 150);
        eq("16: the last", m.book(149, 0), 9);
        eq("16: beyond", m.book(150, 0), NONE);
        eq("16: all goes on", m.who(0, 2), 17);
        eq("16: lines are kept", m.book(139, 0), 0);
        yes("16: undone", m.undo());
        eq("16: none of its own to lose", m.look(9), 150);
    }

    private static void goes17() {
        DewMarket m = new DewMarket();
        eq("17: none", m.goes(0, 0), NONE);
        eq("17: too many", m.goes(61, 0), NONE);
        eq("17: another what", m.goes(1, 4), NONE);
        eq("17: another what", m.goes(1, -1), NONE);
        m.web(0, 30);
        m.web(1, 30);
        m.gatherer(0);
        m.mourner(0, 9, 2);
        m.set(3, 0, 3);
        m.set(4, 0, 1);
        Check.tell(m, 3, "web 0 near 1;");
        Check.tell(m, 0, "tears 500;");
        Check.tell(m, 1, "at 1 gatherer 0 take 2;at 1 gatherer 0 sell 0 9;");
        eq("17: beads", m.goes(1, 0), 4);
        // 2 + 2 each; at 1 two of web 0 are taken, two are left: one goes to web 1, one is lost
        eq("17: beads", m.goes(2, 0), 5);
        eq("17: wept", m.goes(2, 1), 2);
        eq("17: purses", m.goes(2, 2), 4);
        eq("17: lost", m.goes(2, 3), 5);
        Check.tell(m, 0, "tears 499;");
        eq("17: not torn in thought", m.goes(2, 0), 6);
        eq("17: sixty", m.goes(60, 0), 89 + 89);
        eq("17: nothing of it stays", m.look(8), 0);
        eq("17: nothing of it stays", m.look(9), 0);
        eq("17: no draws", m.look(10), 0);
        eq("17: nothing to undo", m.look(15), 0);
        eq("17: nothing of it stays", m.of(0, 2), 0);
    }

    private static void weeps18() {
        DewMarket m = new DewMarket();
        eq("18: none", m.weeps(0), NONE);
        eq("18: none", m.weeps(-1), NONE);
        m.gatherer(0);
        m.mourner(0, 0, 1);
        m.mourner(0, 3, 1);
        m.mourner(0, 3, 1);
        m.mourner(0, 3, 1);
        m.set(1, 0, 40);
        Check.tell(m, 1, "at 0 gatherer 0 sell 1 2;at 5 gatherer 0 sell 1 9;at 59 gatherer 0 sell 2 9;at 60 gatherer 0 sell 3 9;");
        eq("18: now", m.weeps(0), 0);
        eq("18: behind six", m.weeps(1), 6);
        eq("18: behind sixty", m.weeps(2), 60);
        eq("18: not within sixty", m.weeps(3), NONE);
        eq("18: nothing stays", m.weeper(1, 1), 3);
    }

    private static void claims19() {
        DewMarket m = new DewMarket();
        eq("19: none", m.claims(-1), NONE);
        eq("19: none", m.claims(20), NONE);
        eq("19: bare", m.claims(19), 0);
        m.web(19, 30);
        m.web(19, 30);
        m.web(18, 30);
        m.set(0, 0, 90);
        m.set(0, 1, 5);
        m.set(0, 2, 7);
        eq("19: all there", m.claims(19), 95);
        eq("19: all there", m.claims(18), 7);
        m.gatherer(19);
        Check.tell(m, 0, "tears 1000;");
        m.act(1, 0, 1);
        eq("19: not the torn one", m.claims(19), 5);
    }

    private static void threads20And21() {
        DewMarket m = new DewMarket();
        eq("20: alike", m.thread(3, 3), NONE);
        eq("20: no knot", m.thread(6, 0), NONE);
        eq("20: no knot", m.thread(0, 6), NONE);
        eq("20: no knot", m.thread(0, -1), NONE);
        eq("20: no knot", m.thread(-2, 0), NONE);
        eq("21: none", m.hangs(), 0);
        for (int i = 0; i < 6; i++) {
            eq("20: threads", m.thread(i, (i + 1) % 6), 2 * i + 1);
            eq("20: told twice", m.thread((i + 1) % 6, i), 2 * i + 2);
        }
        eq("20: the 13th", m.thread(0, 3), NONE);
        eq("21: a ring of six, each two ways", m.hangs(), 6 * 32);
        eq("20: none is then", m.thread(NONE, 99), 0);
        eq("21: none", m.hangs(), 0);
        for (int a = 0; a < 4; a++) {
            for (int b = a + 1; b < 4; b++) {
                m.thread(a, b);
            }
        }
        eq("21: two knots apart", m.hangs(), 0);
        m.thread(4, 0);
        m.thread(5, 4);
        eq("21: four knots all joined", m.hangs(), 16);
        m.thread(NONE, 0);
        for (int a = 0; a < 3; a++) {
            for (int b = 3; b < 6; b++) {
                m.thread(a, b);
            }
        }
        eq("21: three by three", m.hangs(), 81);
    }

    private static void square22And23() {
        DewMarket m = new DewMarket();
        no("22: place", m.cell(-1, 0));
        no("22: place", m.cell(9, 0));
        no("22: number", m.cell(0, 10));
        no("22: number", m.cell(0, -10));
        eq("23: at first", m.determinant(), 0);
        int[] square = {2, -3, 1, 2, 0, -1, 1, 4, 5};
        for (int i = 0; i < 9; i++) {
            yes("22: cell", m.cell(i, square[i]));
        }
        eq("23: determinant", m.determinant(), 49);
        int[] most = {9, 9, -9, -9, 9, 9, 9, -9, 9};
        for (int i = 0; i < 9; i++) {
            m.cell(i, most[i]);
        }
        eq("23: determinant", m.determinant(), 9 * 9 * 9 * 4);
    }

    private static void marks24And25() {
        DewMarket m = new DewMarket();
        eq("24: x", m.mark(100, 0), NONE);
        eq("24: x", m.mark(-2, 0), NONE);
        eq("24: y", m.mark(0, 100), NONE);
        eq("24: y", m.mark(0, -100), NONE);
        eq("25: none told", m.marks(0, 0), 0);
        eq("25: none told", m.marks(0, 1), 0);
        eq("24: mark", m.mark(99, 99), 1);
        eq("24: mark", m.mark(0, -99), 2);
        eq("24: told already", m.mark(99, 5), NONE);
        eq("25: between", m.marks(50, 0), 1);
        eq("25: between", m.marks(50, 1), 1);
        eq("25: between", m.marks(49, 0), -1);
        eq("24: mark", m.mark(9, 5), 3);
        eq("24: mark", m.mark(5, -1), 4);
        eq("25: 1/2", m.marks(6, 0), 1);
        eq("25: 1/2", m.marks(6, 1), 2);
        eq("25: on a mark", m.marks(5, 0), -1);
        eq("25: on a mark", m.marks(5, 1), 1);
        eq("25: below 0", m.marks(1, 0), -397);
        eq("25: below 0", m.marks(1, 1), 5);
        eq("25: x", m.marks(100, 0), -100);
        eq("25: x", m.marks(-1, 0), -100);
        eq("25: another what", m.marks(5, 2), -100);
        eq("25: another what", m.marks(5, -1), -100);
        for (int i = 0; i < 4; i++) {
            eq("24: mark", m.mark(50 + i, 0), 5 + i);
        }
        eq("24: the ninth", m.mark(60, 0), NONE);
        eq("25: 0 in lowest terms", m.marks(51, 1), 1);
        eq("24: none is then", m.mark(NONE, 1000), 0);
        m.mark(7, 7);
        m.mark(10, 7);
        eq("25: beyond all", m.marks(6, 1), 0);
        eq("25: beyond all", m.marks(11, 0), 0);
        eq("25: level", m.marks(8, 0), 7);
        eq("25: level", m.marks(8, 1), 1);
        m.mark(NONE, 0);
        m.mark(3, 4);
        m.mark(6, -4);
        eq("25: 0 between", m.marks(4, 0), 4);
        eq("25: 0 between", m.marks(4, 1), 3);
        m.mark(NONE, 0);
        m.mark(2, 4);
        m.mark(6, -4);
        eq("25: 0", m.marks(4, 0), 0);
        eq("25: 0 by 1", m.marks(4, 1), 1);
    }

    private static void chords26And27() {
        DewMarket m = new DewMarket();
        eq("26: alike", m.chord(4, 4), NONE);
        eq("26: no place", m.chord(12, 0), NONE);
        eq("26: no place", m.chord(0, 12), NONE);
        eq("26: no place", m.chord(0, -1), NONE);
        for (int i = 0; i < 6; i++) {
            eq("26: chord", m.chord(i, i + 6), i + 1);
            eq("26: a place twice", m.chord(11, i), NONE);
        }
        eq("27: all cross", m.chords(0), 15);
        eq("27: one alone", m.chords(1), 1);
        eq("26: none is then", m.chord(NONE, 4), 0);
        eq("27: none", m.chords(0), 0);
        eq("27: none", m.chords(1), 0);
        m.chord(11, 1);
        m.chord(0, 5);
        m.chord(2, 4);
        m.chord(3, 9);
        m.chord(8, 10);
        // 11-1 crosses 0-5; 0-5 and 2-4 and 8-10 cross 3-9
        eq("27: couples", m.chords(0), 4);
        eq("27: most", m.chords(1), 3);
        eq("27: another what", m.chords(2), NONE);
        eq("27: another what", m.chords(-1), NONE);
    }

    private static void round28And29() {
        DewMarket m = new DewMarket();
        eq("28: x", m.stop(21, 0), NONE);
        eq("28: x", m.stop(-2, 0), NONE);
        eq("28: y", m.stop(0, 21), NONE);
        eq("28: y", m.stop(0, -1), NONE);
        eq("28: stop", m.stop(20, 20), 1);
        eq("29: fewer than two", m.round(0), 0);
        eq("29: fewer than two", m.round(1), 0);
        m.stop(0, 0);
        eq("29: there and back", m.round(0), 80);
        eq("29: there and back", m.round(1), 1);
        eq("28: the same place", m.stop(0, 0), 3);
        eq("29: of several the least", m.round(1), 12);
        eq("28: none is then", m.stop(NONE, NONE), 0);
        int[][] places = {{0, 0}, {10, 10}, {0, 10}, {10, 0}, {5, 0}, {10, 5}, {0, 5}};
        for (int i = 0; i < places.length; i++) {
            eq("28: stop", m.stop(places[i][0], places[i][1]), i + 1);
        }
        eq("28: the eighth", m.stop(1, 1), NONE);
        eq("29: round the square", m.round(0), 40);
        eq("29: the least number", m.round(1), 435126);
        eq("29: another what", m.round(2), NONE);
        eq("29: another what", m.round(-1), NONE);
    }

    private static void ones30() {
        DewMarket m = new DewMarket();
        int[] ns = {0, 1, 2, 7, 8, 100, 1023, 1024, 8191, 8192, 9998, 9999};
        for (int n : ns) {
            int all = 0;
            int[] have = new int[15];
            for (int i = 0; i <= n; i++) {
                all += Integer.bitCount(i);
                have[Integer.bitCount(i)]++;
            }
            eq("30: ones of 0 .. " + n, m.ones(n, NONE), all);
            for (int k = 0; k <= 14; k++) {
                eq("30: ones(" + n + ", " + k + ")", m.ones(n, k), have[k]);
            }
        }
        eq("30: n", m.ones(-1, 0), NONE);
        eq("30: n", m.ones(10000, NONE), NONE);
        eq("30: k", m.ones(5, 15), NONE);
        eq("30: k", m.ones(5, -2), NONE);
    }

    private static void order31And32() {
        DewMarket m = new DewMarket();
        eq("32: none told", m.order(0), NONE);
        eq("32: none told", m.order(1), 0);
        eq("32: none told", m.order(2), 1);
        eq("31: digit", m.digit(10), NONE);
        eq("31: digit", m.digit(-2), NONE);
        int[] row = {0, 1, 2, 3, 4, 5, 6, 7};
        for (int i = 0; i < 8; i++) {
            eq("31: digits", m.digit(row[i]), i + 1);
        }
        eq("31: the ninth", m.digit(0), NONE);
        eq("32: a 0 ahead falls away", m.order(0), 1234576);
        eq("32: the first", m.order(1), 0);
        eq("32: how many", m.order(2), 40320);
        eq("31: empty then", m.digit(NONE), 0);
        orderIs(m, "2233", 2323, 0, 6);
        orderIs(m, "3322", NONE, 5, 6);
        orderIs(m, "2332", 3223, 2, 6);
        orderIs(m, "9", NONE, 0, 1);
        orderIs(m, "77777777", NONE, 0, 1);
        orderIs(m, "15847653", nextByTrying("15847653"), whichByTrying("15847653"), 20160);
        orderIs(m, "98765421", NONE, 40319, 40320);
        orderIs(m, "00000001", 10, 0, 8);
        eq("32: another what", m.order(3), NONE);
        eq("32: another what", m.order(-1), NONE);
    }

    private static void orderIs(DewMarket m, String row, int next, int which, int all) {
        m.digit(NONE);
        for (char c : row.toCharArray()) {
            m.digit(c - '0');
        }
        eq("32: the next of " + row, m.order(0), next);
        eq("32: which is " + row, m.order(1), which);
        eq("32: how many of " + row, m.order(2), all);
    }

    /** The digits of a number of eight, as counts of four bits each. */
    private static long countsOf(int v) {
        long counts = 0;
        for (int i = 0, rest = v; i < 8; i++, rest /= 10) {
            counts += 1L << 4 * (rest % 10);
        }
        return counts;
    }

    private static int nextByTrying(String row) {
        long wanted = countsOf(Integer.parseInt(row));
        for (int v = Integer.parseInt(row) + 1; v < 100000000; v++) {
            if (countsOf(v) == wanted) {
                return v;
            }
        }
        return NONE;
    }

    private static int whichByTrying(String row) {
        long wanted = countsOf(Integer.parseInt(row));
        int before = 0;
        for (int v = 0; v < Integer.parseInt(row); v++) {
            before += countsOf(v) == wanted ? 1 : 0;
        }
        return before;
    }

    private static void stack33And34() {
        DewMarket m = new DewMarket();
        eq("33: sign", m.sign(15), NONE);
        eq("33: sign", m.sign(-2), NONE);
        stackIs(m, new int[] {}, 0, 0, NONE);
        stackIs(m, new int[] {7, 3, 11}, 4, 1, NONE);
        stackIs(m, new int[] {7, 3, 14, 11}, -4, 1, NONE);
        stackIs(m, new int[] {7, 3, 10, 13, 12}, 100, 1, NONE);
        stackIs(m, new int[] {10, 5}, 0, 0, 0);
        stackIs(m, new int[] {13}, 0, 0, 0);
        stackIs(m, new int[] {4, 14, 5}, 4, 1, 1);
        stackIs(m, new int[] {4, 5, 6, 12, 12, 12, 9}, 120, 1, 5);
        stackIs(m, new int[] {9, 13, 12, 13, 12, 13, 12, 13, 12, 13, 12, 13}, power(9, 32), 2, NONE);
        stackIs(m, new int[] {0, 1, 2, 3, 4, 5, 6, 7, 8, 9, 13, 14}, 9, 11, NONE);
        eq("33: the 13th", m.sign(0), NONE);
        eq("33: empty then", m.sign(NONE), 0);
        eq("34: another what", m.stack(3), -100);
        eq("34: another what", m.stack(-1), -100);
    }

    private static int power(int base, int times) {
        int product = 1;
        for (int i = 0; i < times; i++) {
            product *= base;
        }
        return product;
    }

    private static void stackIs(DewMarket m, int[] signs, int highest, int lie, int stuck) {
        m.sign(NONE);
        for (int i = 0; i < signs.length; i++) {
            eq("33: signs", m.sign(signs[i]), i + 1);
        }
        String row = java.util.Arrays.toString(signs);
        eq("34: the highest of " + row, m.stack(0), highest);
        eq("34: how many lie of " + row, m.stack(1), lie);
        eq("34: at which sign of " + row, m.stack(2), stuck);
    }

    private static void strung35() {
        DewMarket m = new DewMarket();
        eq("35: n", m.strung(-1, 0), NONE);
        eq("35: n", m.strung(10000, 1), NONE);
        eq("35: another what", m.strung(1, 2), NONE);
        eq("35: another what", m.strung(1, -1), NONE);
        eq("35: 0", m.strung(0, 0), 0);
        eq("35: 0", m.strung(0, 1), 0);
        eq("35: 1", m.strung(1, 0), 1);
        eq("35: 2", m.strung(2, 0), 2);
        eq("35: 3", m.strung(3, 0), 4);
        eq("35: 100 = 89 + 8 + 3", m.strung(100, 0), 1 << 9 | 1 << 4 | 1 << 2);
        eq("35: 9999 = 6765 + 2584 + 610 + 34 + 5 + 1", m.strung(9999, 0),
                1 << 18 | 1 << 16 | 1 << 13 | 1 << 7 | 1 << 3 | 1);
        eq("35: 9999", m.strung(9999, 1), 6);
        eq("35: 6764", m.strung(6764, 1), 9);
    }

    private static void runs36And37() {
        DewMarket m = new DewMarket();
        eq("36: number", m.run(10), NONE);
        eq("36: number", m.run(-2), NONE);
        eq("37: none told", m.runs(0), 0);
        eq("37: none told", m.runs(1), NONE);
        eq("37: none told", m.runs(100), 0);
        int[] row = {3, 0, 3, 1, 2, 5, 1, 5, 0, 0, 4, 9};
        for (int i = 0; i < row.length; i++) {
            eq("36: row", m.run(row[i]), i + 1);
        }
        eq("36: the 13th", m.run(0), NONE);
        eq("37: the longest (0 3 1 2 5)", m.runs(0), 5);
        eq("37: which", m.runs(1), 0);
        eq("37: come to 0", m.runs(100), 4);
        // 3; 3 0; 0 3; 3; 1 2
        eq("37: come to 3", m.runs(103), 5);
        eq("37: all", m.runs(133), 1);
        eq("37: come to 108", m.runs(208), 0);
        eq("37: another what", m.runs(209), NONE);
        eq("37: another what", m.runs(99), NONE);
        eq("37: another what", m.runs(2), NONE);
        eq("37: another what", m.runs(-1), NONE);
        eq("36: none is then", m.run(NONE), 0);
        for (int i = 0; i < 12; i++) {
            m.run(9);
        }
        eq("37: 108", m.runs(208), 1);
        eq("37: 99", m.runs(199), 2);
        eq("37: one alone", m.runs(0), 1);
        eq("37: which", m.runs(1), 9);
        m.run(NONE);
        m.run(7);
        m.run(2);
        eq("37: of several the least", m.runs(1), 2);
    }

    private static void leaks38And39() {
        DewMarket m = new DewMarket();
        no("38: x", m.hole(6, 0, true));
        no("38: x", m.hole(-1, 0, true));
        no("38: y", m.hole(0, 6, false));
        no("38: y", m.hole(0, -1, true));
        eq("39: all shut", m.leaks(0), 0);
        eq("39: all shut", m.leaks(1), 6);
        // a way that goes down, right, up and down again
        int[][] way = {{0, 0}, {0, 1}, {0, 2}, {0, 3}, {1, 3}, {2, 3}, {2, 2}, {2, 1}, {3, 1}, {4, 1}, {4, 2}, {4, 3}, {4, 4}, {4, 5}};
        for (int[] place : way) {
            yes("38: open", m.hole(place[0], place[1], true));
        }
        eq("39: it leaks", m.leaks(0), 1);
        eq("39: it leaks", m.leaks(1), 0);
        m.hole(2, 1, false);
        eq("39: shut", m.leaks(0), 0);
        eq("39: one more", m.leaks(1), 1);
        m.hole(1, 3, false);
        m.hole(4, 1, false);
        m.hole(4, 5, false);
        eq("39: straight down", m.leaks(1), 2);
        eq("39: another what", m.leaks(2), NONE);
        eq("39: another what", m.leaks(-1), NONE);
        // the sides do not hang together
        m = new DewMarket();
        for (int y = 0; y < 6; y++) {
            m.hole(y < 3 ? 5 : 0, y, true);
        }
        eq("39: no way round", m.leaks(0), 0);
        eq("39: no way round", m.leaks(1), 3);
        // not from corner to corner
        m = new DewMarket();
        for (int y = 0; y < 6; y++) {
            m.hole(y, y, true);
        }
        eq("39: not aslant", m.leaks(0), 0);
        eq("39: not aslant", m.leaks(1), 5);
    }

    private static void colours40() {
        DewMarket m = new DewMarket();
        eq("40: one", m.colours(1, 9, 0), 9);
        eq("40: one", m.colours(1, 9, 1), 9);
        eq("40: one of one", m.colours(1, 1, 0), 1);
        eq("40: one of one", m.colours(1, 1, 1), 1);
        eq("40: two of one", m.colours(2, 1, 0), 0);
        eq("40: two of one", m.colours(2, 1, 1), 0);
        eq("40: three of one", m.colours(3, 1, 1), 0);
        eq("40: a ring of two", m.colours(2, 3, 1), 6);
        eq("40: a ring of three", m.colours(3, 2, 1), 0);
        eq("40: a ring of three", m.colours(3, 3, 1), 6);
        eq("40: a ring of four", m.colours(4, 3, 1), 18);
        eq("40: a row of four", m.colours(4, 3, 0), 24);
        java.math.BigInteger p = java.math.BigInteger.valueOf(1000000007);
        java.math.BigInteger eight = java.math.BigInteger.valueOf(8);
        eq("40: a row of forty", m.colours(40, 9, 0), eight.pow(39).multiply(java.math.BigInteger.valueOf(9)).mod(p).intValue());
        eq("40: a ring of forty", m.colours(40, 9, 1), eight.pow(40).add(eight).mod(p).intValue());
        eq("40: a ring of 39", m.colours(39, 9, 1), eight.pow(39).subtract(eight).mod(p).intValue());
        eq("40: n", m.colours(0, 1, 0), NONE);
        eq("40: n", m.colours(41, 1, 0), NONE);
        eq("40: k", m.colours(1, 0, 0), NONE);
        eq("40: k", m.colours(1, 10, 0), NONE);
        eq("40: another what", m.colours(1, 1, 2), NONE);
        eq("40: another what", m.colours(1, 1, -1), NONE);
    }

    private static void game41() {
        DewMarket m = new DewMarket();
        eq("41: w", m.game(0, 1, 0), NONE);
        eq("41: w", m.game(5, 1, 0), NONE);
        eq("41: h", m.game(1, 0, 0), NONE);
        eq("41: h", m.game(1, 5, 0), NONE);
        eq("41: no other bits", m.game(2, 1, 4), NONE);
        eq("41: no other bits", m.game(2, 1, -4), NONE);
        eq("41: no other bits", m.game(4, 4, 0x10000), NONE);
        eq("41: one place", m.game(1, 1, 0), NONE);
        eq("41: lying", m.game(2, 1, 0), 0);
        eq("41: standing", m.game(1, 2, 0), 1);
        eq("41: standing, lower", m.game(1, 3, 1), 3);
        eq("41: full", m.game(2, 1, 1), NONE);
        eq("41: two by two loses", m.game(2, 2, 0), NONE);
        eq("41: the middle of four", m.game(4, 1, 0), 2);
        eq("41: the middle of four, standing", m.game(1, 4, 0), 3);
        eq("41: four by four loses", m.game(4, 4, 0), NONE);
        eq("41: a bent one", m.game(2, 2, 1), 3);
        eq("41: two apart", m.game(3, 2, 2 | 16), NONE);
    }

    private static void undo42() {
        DewMarket m = new DewMarket();
        m.web(2, 10);
        m.web(3, 10);
        m.gatherer(1);
        m.mourner(2, 5, 4);
        m.set(0, 0, 20);
        m.set(3, 0, 1);
        m.set(5, 0, 9);
        Check.tell(m, 3, "web 0 near 1;");
        m.state(5);
        int[] atFirst = all(m);
        m.act(0, 0, 2);
        int[] sent = all(m);
        m.minutes(1);
        int[] there = all(m);
        Check.tell(m, 0, "tears 1000;");
        m.act(1, 0, 4);
        int[] taken = all(m);
        eq("42: torn", m.of(0, 3), 1);
        m.act(2, 0, 0);
        int[] sold = all(m);
        m.act(3, 0, 0);
        eq("42: kept", m.look(15), 5);
        eq("42: not torn", m.of(0, 3), 0);
        yes("42: undo", m.undo());
        same("42: spinning undone", all(m), sold);
        yes("42: undo", m.undo());
        same("42: selling undone", all(m), taken);
        yes("42: undo", m.undo());
        same("42: taking undone", all(m), there);
        eq("42: THE LAW stays", m.look(11), 1);
        yes("42: undo", m.undo());
        same("42: the minute undone", all(m), sent);
        yes("42: undo", m.undo());
        same("42: sending undone", all(m), atFirst);
        no("42: nothing", m.undo());
        m.minutes(10);
        eq("42: six are kept", m.look(15), 6);
        for (int i = 0; i < 6; i++) {
            yes("42: undo", m.undo());
        }
        no("42: nothing more", m.undo());
        eq("42: minute", m.look(8), 4);
        m.minutes(3);
        m.undo();
        m.minutes(1);
        m.undo();
        m.undo();
        eq("42: back and forth", m.look(8), 5);
    }

    /** All that a MINUTE or a hand can change. */
    private static int[] all(DewMarket m) {
        int[] seen = new int[2000];
        int n = 0;
        for (int what = 0; what <= 10; what++) {
            seen[n++] = m.look(what);
        }
        for (int i = 0; i < m.look(0); i++) {
            for (int what = 0; what <= 3; what++) {
                seen[n++] = m.of(i, what);
            }
        }
        for (int i = 0; i < m.look(1); i++) {
            for (int what = 0; what <= 3; what++) {
                seen[n++] = m.who(i, what);
            }
        }
        for (int i = 0; i < m.look(2); i++) {
            for (int what = 0; what <= 4; what++) {
                seen[n++] = m.weeper(i, what);
            }
        }
        for (int i = 0; i < m.look(9); i++) {
            for (int what = 0; what <= 3; what++) {
                seen[n++] = m.book(i, what);
            }
        }
        return seen;
    }

    private static void same(String what, int[] got, int[] want) {
        for (int i = 0; i < got.length; i++) {
            eq(what + " [" + i + "]", got[i], want[i]);
        }
    }

    private static void undoForgets42() {
        for (int way = 0; way < 40; way++) {
            DewMarket m = new DewMarket();
            for (int i = 0; i < 11; i++) {
                m.web(0, 1);
            }
            m.gatherer(0);
            m.mourner(0, 0, 1);
            m.image(true);
            m.minutes(3);
            eq("42: kept " + way, m.look(15), 3);
            eq("42: forgotten by " + way, forgets(m, way) ? 0 : 3, m.look(15));
        }
    }

    /** Does one thing; whether it forgets what can be undone. */
    private static boolean forgets(DewMarket m, int way) {
        switch (way) {
            case 0: m.state(0); return true;
            case 1: m.web(0, 1); return true;
            case 2: m.gatherer(0); return true;
            case 3: m.mourner(0, 0, 1); return true;
            case 4: m.set(3, 0, 0); return true;
            case 5: m.text(1); return true;
            case 6: m.text(2); return true;
            case 7: m.image(false); return true;
            case 8: m.set(0, 0, 0); return true;
            case 9: m.text(0); return false;
            case 10: m.text(3); return false;
            case 11: m.text(4); return false;
            case 12: Check.tell(m, 1, "at"); return false;
            case 13: Check.tell(m, 2, "at"); return false;
            case 14: m.image(true); return false;
            case 15: m.feed(0, 0, 0, 0, 0); return false;
            case 16: m.end(0); return false;
            case 17: m.thread(0, 1); return false;
            case 18: m.cell(0, 1); return false;
            case 19: m.mark(0, 1); return false;
            case 20: m.chord(0, 1); return false;
            case 21: m.stop(0, 1); return false;
            case 22: m.digit(1); return false;
            case 23: m.sign(1); return false;
            case 24: m.run(1); return false;
            case 25: m.hole(1, 1, true); return false;
            case 26: m.web(20, 1); return false;
            case 27: m.gatherer(20); return false;
            case 28: m.mourner(20, 0, 1); return false;
            case 29: m.set(3, 0, 10); return false;
            case 30: m.act(0, 0, 0); return false;
            case 31: m.minutes(0); return false;
            case 32: m.goes(5, 0); return false;
            case 33: m.weeps(0); return false;
            case 34: m.game(4, 4, 0); return false;
            case 35: m.thread(NONE, 1); return false;
            case 36: m.act(3, 0, 0); return false;
            case 37: m.set(0, 12, 0); return false;
            default: m.look(0); return false;
        }
    }

    private static void image43() {
        DewMarket m = new DewMarket();
        no("43: none", m.image(false));
        m.web(0, 5);
        m.web(1, 5);
        m.gatherer(0);
        m.mourner(0, 9, 1);
        m.set(0, 0, 5);
        m.act(1, 0, 1);
        tellAll(m, 0);
        int[] seen = thoughts(m);
        m.minutes(2);
        int[] hedge = all(m);
        eq("43: undo", m.look(15), 2);
        yes("43: taken", m.image(true));
        eq("43: taking it forgets nothing", m.look(15), 2);
        for (int time = 0; time < 2; time++) {
            tellAll(m, 1);
            m.web(2, 2);
            m.gatherer(3);
            m.mourner(3, 3, 3);
            m.set(5, 0, 4);
            m.act(1, 0, 1);
            m.minutes(3);
            m.state(99);
            CHECK.faulty(m, 0, "forms", 1, 5);
            m.feed(0, 0, 0, 0, 0);
            yes("43: gone back", m.image(false));
            same("43: the hedge", all(m), hedge);
            same("43: what was told", thoughts(m), seen);
            eq("43: nothing to undo", m.look(15), 0);
            no("43: nothing to undo", m.undo());
            eq("43: fault stays", m.fault(1), 5);
            yes("43: the tape stays", m.end(20));
            m.text(4);
        }
        m.web(5, 5);
        yes("43: taken anew", m.image(true));
        m.web(6, 6);
        m.image(false);
        eq("43: the newer one", m.look(0), 3);
    }

    private static void tellAll(DewMarket m, int more) {
        Check.tell(m, 0, more == 0 ? "forms 3;" : "dries 1;dries 2;");
        Check.tell(m, 1, more == 0 ? "at 5 gatherer 0 go 1;" : "");
        Check.tell(m, 2, more == 0 ? "at 5 wind 1;" : "");
        Check.tell(m, 3, more == 0 ? "web 0 near 1;" : "");
        for (int i = 0; i < 5; i++) {
            m.thread(i, i + 1);
        }
        for (int i = 0; i < 3; i++) {
            m.cell(4 * i, i + 1 + more);
        }
        m.mark(3 + 3 * more, 3);
        m.mark(8 + 2 * more, 4);
        m.chord(0 + 2 * more, 5 + 2 * more);
        m.stop(1, 1 + more);
        m.stop(5, 5);
        m.digit(1 + more);
        m.digit(2 + 2 * more);
        m.sign(5 + more);
        m.run(7 + more);
        m.hole(more, 0, true);
    }

    private static int[] thoughts(DewMarket m) {
        return new int[] {
            m.look(11), m.look(12), m.look(13), m.look(14), m.hangs(), m.determinant(), m.marks(5, 0), m.marks(5, 1),
            m.marks(7, 0), m.marks(7, 1), m.chords(0), m.chords(1), m.round(0), m.round(1), m.order(0), m.order(1),
            m.order(2), m.stack(0), m.stack(1), m.stack(2), m.runs(0), m.runs(1), m.leaks(0), m.leaks(1),
            m.of(0, 4), m.of(0, 5), m.of(0, 7), m.goes(10, 0), m.goes(10, 3)
        };
    }

    private static void look44() {
        DewMarket m = new DewMarket();
        m.web(0, 2);
        m.web(0, 2);
        m.web(1, 2);
        m.gatherer(0);
        m.gatherer(1);
        m.mourner(0, 0, 1);
        m.set(0, 1, 6);
        m.set(3, 0, 3);
        m.set(4, 0, 4);
        m.set(5, 0, 5);
        Check.tell(m, 0, "tears 1000;forms 0;dries 0;");
        Check.tell(m, 1, "at 500 gatherer 0 go 0;".repeat(4));
        Check.tell(m, 2, "at 500 mist 0;".repeat(5));
        Check.tell(m, 3, "web 0 near 2;".repeat(6));
        m.state(1);
        m.minutes(2);
        m.act(1, 0, 2);
        int[] due = {3, 2, 1, 2, 3, 4, 5, 4, 2, 2, 1664525 + 1013904223, 3, 4, 5, 6, 3};
        for (int what = 0; what < due.length; what++) {
            eq("44: look(" + what + ")", m.look(what), due[what]);
        }
        eq("44: another what", m.look(16), -100000);
        eq("44: another what", m.look(-1), -100000);
        eq("44: another what", m.look(MIN), -100000);
    }
}
