/** Boundary cases of the TAPE, the TEXTS, their FAULTS and of what THE LAW tells: promises 9 to 13. */
public final class EdgeTextTests {
    private static final Edges E = new Edges();
    private static final int MIN = Edges.MIN;
    private static final int MAX = Edges.MAX;
    /** Each TEXT's shortest line, for a hedge as populated() makes it. */
    private static final String[] LINES = {"forms 1;", "at 1gatherer 0go 1;", "at 1 sun 1;", "web 0 near 1;"};

    public static void main(String[] args) {
        feed9();
        end10();
        textAndTape11();
        textStays11();
        lines11();
        near11();
        numbersOfPaths12();
        grammarOfPaths12();
        numbersOfSky12();
        whoThereIs12();
        fault12();
        outOfPlace12();
        tokens12();
        blanks12();
        otherTextsWords12();
        theEnd12();
        whichFault12();
        parts12();
        manyLines12();
        open12();
        grammar13();
        deep13();
        wrapping13();
        heldTo13();
        whichLine13();
        words13();
        E.close("EdgeTextTests", 9, 10, 11, 12, 13);
    }

    /** Two webs, one gatherer, one mourner. */
    private static void populated(DewMarket m) {
        m.web(3, 4);
        m.web(5, 6);
        m.gatherer(3);
        m.mourner(3, 9, 2);
    }

    private static void fill(DewMarket m, int bytes) {
        for (int i = 20; i <= bytes; i += 20) {
            m.feed(0x20202020, 0x20202020, 0x20202020, 0x20202020, 0x20202020);
        }
    }

    private static void feed9() {
        E.says(9, "Twenty bytes come behind the TAPE, of each number the highest first: how many it has.", m -> {
            // "at 7 mist 5 ;at 8 sun 6 ;at 9 wind 7 ;" and blanks
            E.eq("twenty", m.feed(0x61742037, 0x206d6973, 0x74203520, 0x3b617420, 0x38207375), 20);
            E.eq("forty", m.feed(0x6e203620, 0x3b617420, 0x39207769, 0x6e642037, 0x203b2020), 40);
            E.eq("read", m.text(2), 3);
            E.eq("from the first again", m.feed(0, 0, 0, 0, 0), 20);
        });
        E.says(9, "of each number the highest first", m -> {
            // a byte above 127 is no sign, and no blank is made of it
            m.feed(0x20202020, 0x20202020, 0x20202020, 0x202020ff, 0x20202020);
            E.none("read", m.text(2));
            E.eq("its place", m.fault(1), 15);
            m.feed(MIN, 0, 0, 0, 0);
            E.none("read", m.text(2));
            E.eq("its place", m.fault(1), 0);
            m.feed(0x20202020, 0x20802020, 0x20202020, 0x202020ff, 0x20202020);
            E.none("read", m.text(2));
            E.eq("its place", m.fault(1), 5);
        });
        E.says(9, "NONE, and nothing comes, if there would be more than 400.", m -> {
            for (int i = 1; i <= 20; i++) {
                E.eq("feed", m.feed(0x20202020, 0x20202020, 0x20202020, 0x20202020, 0x20202020), 20 * i);
            }
            E.none("the 21st", m.feed(-1, -1, -1, -1, -1));
            E.no("nothing came", m.end(401));
            E.yes("all are there", m.end(400));
            E.eq("blanks alone", m.text(0), 0);
        });
        E.says(9, "NONE, and nothing comes, if there would be more than 400.", m -> {
            fill(m, 400);
            m.end(381);
            E.none("one too many", m.feed(0, 0, 0, 0, 0));
            E.no("nothing came", m.end(382));
            m.end(380);
            E.eq("just so many", m.feed(0, 0, 0, 0, 0), 400);
        });
    }

    private static void end10() {
        E.says(10, "The TAPE has its first n bytes alone: true", m -> {
            // "at 0 sun 10;" is one beyond its bounds, "at 0 sun 1" has no end
            m.feed(0x61742030, 0x2073756e, 0x2031303b, 0x20202020, 0x20202020);
            E.yes("cut", m.end(10));
            E.none("read", m.text(2));
            E.eq("the fault", m.fault(0), 1);
            E.eq("the text's length", m.fault(1), 10);
        });
        E.says(10, "false, changing nothing, if it has not so many, or n is below 0", m -> {
            E.no("empty", m.end(1));
            E.yes("none of none", m.end(0));
            E.no("below 0", m.end(-1));
            fill(m, 20);
            E.no("one too many", m.end(21));
            E.no("MAX", m.end(MAX));
            E.no("below 0", m.end(-1));
            E.no("MIN", m.end(MIN));
            E.yes("nothing was cut", m.end(20));
            E.yes("one less", m.end(19));
            E.no("it is gone", m.end(20));
            E.eq("behind those", m.feed(0, 0, 0, 0, 0), 39);
            E.yes("none", m.end(0));
            E.no("empty", m.end(1));
            E.eq("from the first", m.feed(0, 0, 0, 0, 0), 20);
        });
    }

    private static void textAndTape11() {
        E.says(11, "The TAPE, empty then (whatever k, with a FAULT too), is TEXT k: how many lines.", m -> {
            populated(m);
            for (int k : new int[] {-1, 4, MIN, MAX}) {
                fill(m, 20);
                E.none("no such one", m.text(k));
                E.no("empty behind text(" + k + ")", m.end(1));
            }
            for (int k = 0; k <= 3; k++) {
                E.faulty(m, k, 1, "|;");
                E.no("empty behind a FAULT", m.end(1));
                E.told(m, k, LINES[k], 1);
                E.no("empty behind a TEXT", m.end(1));
                E.eq("an empty tape is an empty TEXT", m.text(k), 0);
                E.eq("an empty TEXT", m.look(11 + k), 0);
                E.told(m, k, " \n ", 0);
            }
        });
        E.says(11, "NONE: no such one (fault() tells 0), or a FAULT (it stays as it was).", m -> {
            for (int k : new int[] {-1, 4, MIN, MAX}) {
                E.faulty(m, 0, 1, "forms |;");
                Check.tape(m, ";");
                E.none("no such one", m.text(k));
                E.eq("tells 0", m.fault(0), 0);
                E.none("and no place", m.fault(1));
            }
            E.eq("no TEXT came", m.look(11) + m.look(12) + m.look(13) + m.look(14), 0);
        });
    }

    private static void textStays11() {
        E.says(11, "or a FAULT (it stays as it was)", m -> {
            populated(m);
            E.told(m, 0, "forms 2;forms 9;", 2);
            E.faulty(m, 0, 1, "forms 5;forms 5;forms 5|");
            E.eq("THE LAW's lines", m.look(11), 2);
            E.eq("THE LAW", m.of(0, 4), 2);
            E.told(m, 3, "web 0 near 1;", 1);
            E.faulty(m, 3, 1, "web 1 near 0;|0");
            E.eq("NEAR's lines", m.look(14), 1);
            E.eq("NEAR", m.of(0, 7), 2);
            E.told(m, 1, "at 0 gatherer 0 go 4;", 1);
            E.faulty(m, 1, 1, "at 0 gatherer 0 go 9;at 0 gatherer 0 go 9|");
            E.eq("PATHS' lines", m.look(12), 1);
            E.told(m, 2, "at 0 wind 4;", 1);
            E.faulty(m, 2, 1, "at 0 wind 9;at 0 wind 9|");
            E.eq("SKY's lines", m.look(13), 1);
            m.minutes(1);
            E.eq("PATHS", m.who(0, 1), 4);
            E.eq("SKY", m.look(6), 4);
        });
        E.says(11, "or a FAULT (it stays as it was)", m -> {
            E.told(m, 0, "forms 2;", 1);
            Check.tape(m, "forms 5;");
            E.none("no such one", m.text(4));
            m.web(0, 1);
            E.eq("THE LAW", m.of(0, 4), 2);
        });
    }

    private static void lines11() {
        E.says(11, "16 lines of each at most.", m -> {
            populated(m);
            for (int k = 0; k <= 3; k++) {
                E.told(m, k, LINES[k].repeat(15), 15);
                E.told(m, k, LINES[k].repeat(16), 16);
                E.eq("look", m.look(11 + k), 16);
                E.faulty(m, k, 3, LINES[k].repeat(16) + "|" + LINES[k]);
                E.eq("sixteen stay", m.look(11 + k), 16);
                E.told(m, k, LINES[k], 1);
                E.eq("it is another one then", m.look(11 + k), 1);
            }
        });
        E.says(11, "16 lines of each at most.", m -> {
            populated(m);
            E.told(m, 0, "forms 1 when 1=2;".repeat(15) + "forms 7;", 16);
            E.eq("the 16th line is asked, too", m.of(0, 4), 7);
            E.told(m, 2, "at 0 wind 1;".repeat(15) + "at 0 wind 8;", 16);
            E.told(m, 1, "at 0gatherer 0go 1;".repeat(15) + "at 0gatherer 0go 8;", 16);
            m.minutes(1);
            E.eq("the 16th line of SKY", m.look(6), 8);
            E.eq("the 16th line of PATHS", m.who(0, 1), 8);
        });
    }

    private static void near11() {
        E.says(11, "(either way; unlike; told twice it is one.)", m -> {
            populated(m);
            m.web(0, 1);
            E.told(m, 3, "web 0 near 1;web 1 near 0;web 0 near 1;web 2 near 1;", 4);
            E.eq("either way", m.of(0, 7), 2);
            E.eq("either way", m.of(1, 7), 5);
            E.eq("either way", m.of(2, 7), 2);
            E.faulty(m, 3, 2, "web 2 near |2;", "web 0 near |00;");
            E.told(m, 0, "forms near;", 1);
            E.eq("told twice it is one", m.of(0, 4), 1);
            E.eq("two are near", m.of(1, 4), 2);
        });
    }

    private static void numbersOfPaths12() {
        E.says(12, "(MINUTE 0 .. 999; N 1 .. 40.)", m -> {
            populated(m);
            E.told(m, 1, "at 0 gatherer 0 take 1;at 999 gatherer 0 take 40;", 2);
            E.told(m, 1, "at 0 gatherer 0 sell 0 1;at 999 gatherer 0 sell 0 40;", 2);
            E.told(m, 1, "at 0 gatherer 0 go 0;at 999 gatherer 0 go 19;", 2);
            E.faulty(m, 1, 2, "at |1000 gatherer 0 go 1;", "at |9999 gatherer 0 go 1;", "at 0 gatherer 0 take |0;",
                    "at 0 gatherer 0 take |41;", "at 0 gatherer 0 sell 0 |0;", "at 0 gatherer 0 sell 0 |41;",
                    "at 0 gatherer 0 go |20;", "at 0 gatherer 0 go |9999;");
        });
        E.says(12, "(go PLACE | take N | sell MOURNER N)", m -> {
            populated(m);
            E.faulty(m, 1, 1, "at 0 gatherer 0 go 1 |1;", "at 0 gatherer 0 take 1 |1;", "at 0 gatherer 0 sell 0|;",
                    "at 0 gatherer 0 go|;", "at 0 gatherer 0 take|;", "at 0 gatherer 0 sell|;", "at 0 gatherer 0|;",
                    "at 0 gatherer|;", "at 0|;", "at|;", "at 0 gatherer 0 sell 0 1 |1;", "at 0 gatherer 0 |5;",
                    "at |gatherer 0 go 1;", "at 0 |0 go 1;", "|gatherer 0 go 1;", "at 0 gatherer 0 go 1|+1;");
        });
    }

    private static void grammarOfPaths12() {
        E.says(12, "1 PATHS = {at MINUTE gatherer GATHERER (go PLACE | take N | sell MOURNER N) ;}", m -> {
            populated(m);
            E.told(m, 1, "", 0);
            E.faulty(m, 1, 1, "|;", "at 0 gatherer 0 go 1;|;", "at 0 gatherer 0 go 1 |at 0 gatherer 0 go 1;",
                    "at 0 gatherer 0 |gatherer 0 go 1;", "at |at 0 gatherer 0 go 1;", "at 0 gatherer 0 go |go 1;");
        });
        E.says(12, "one beyond its bounds", m -> {
            populated(m);
            E.faulty(m, 1, 2, "at |1000 gatherer 0 go 1;", "at 0 gatherer 0 go |20;", "at 0 gatherer 0 take |41;",
                    "at 0 gatherer 0 take |0000;", "at 0 gatherer 0 sell 0 |0000;", "at 0 gatherer 0 sell 0 |41");
            E.faulty(m, 2, 2, "at |1000 wind 0;", "at 0 mist |0010;", "at 0 sun |10", "at 0 wind |9999 x");
            // a NUMBER of THE LAW has no bounds but its four digits
            E.told(m, 0, "forms 9999+0 when 9999>0 and 0<9999;", 1);
        });
    }

    private static void numbersOfSky12() {
        E.says(12, "(N 0 .. 9.)", m -> {
            populated(m);
            E.told(m, 2, "at 0 mist 0;at 999 mist 9;", 2);
            E.told(m, 2, "at 0 sun 0;at 999 sun 9;", 2);
            E.told(m, 2, "at 0 wind 0;at 999 wind 9;", 2);
            E.faulty(m, 2, 2, "at |1000 mist 1;", "at 0 mist |10;", "at 0 sun |10;", "at 0 wind |10;", "at 0 wind |9999;");
        });
        E.says(12, "(mist N | sun N | wind N | spin WEB)", m -> {
            populated(m);
            E.faulty(m, 2, 1, "at 0 mist|;", "at 0 spin|;", "at 0|;", "at|;", "at 0 mist 1 |1;", "at 0 |1;", "|mist 1;",
                    "at 0 mist 1|,", "at 0 mist |-1;");
        });
        E.says(12, "3 NEAR = {web WEB near WEB ;}", m -> {
            populated(m);
            E.faulty(m, 3, 1, "web|;", "web 0|;", "web 0 near|;", "web 0 near 1 |1;", "web |near 1;", "|0 near 1;",
                    "web 0 |1;", "web 0 near |web 1;");
        });
    }

    private static void whoThereIs12() {
        E.says(12, "a WEB, a GATHERER, a MOURNER that there is not", m -> {
            E.faulty(m, 1, 2, "at 0 gatherer |0 go 1;");
            E.faulty(m, 2, 2, "at 0 spin |0;");
            E.faulty(m, 3, 2, "web |0 near 1;");
            m.gatherer(0);
            E.faulty(m, 1, 2, "at 0 gatherer 0 sell |0 1;", "at 0 gatherer |1 go 1;", "at 0 gatherer |9999 go 1;");
            E.told(m, 1, "at 0 gatherer 0 go 1;", 1);
            m.mourner(0, 0, 1);
            E.told(m, 1, "at 0 gatherer 0 sell 0 1;", 1);
            E.faulty(m, 1, 2, "at 0 gatherer 0 sell |1 1;");
            m.web(0, 1);
            E.told(m, 2, "at 0 spin 0;", 1);
            E.faulty(m, 2, 2, "at 0 spin |1;");
            E.faulty(m, 3, 2, "web 0 near |1;", "web |1 near 0;");
            m.web(0, 1);
            E.told(m, 3, "web 0 near 1;web 1 near 0;", 2);
        });
        E.says(12, "a WEB, a GATHERER, a MOURNER that there is not", m -> {
            for (int i = 0; i < 12; i++) {
                m.web(0, 1);
                m.gatherer(0);
                m.mourner(0, 0, 1);
            }
            E.told(m, 1, "at 0 gatherer 7 sell 9 1;", 1);
            E.faulty(m, 1, 2, "at 0 gatherer |8 sell 9 1;", "at 0 gatherer 7 sell |10 1;");
            E.told(m, 2, "at 0 spin 11;", 1);
            E.faulty(m, 2, 2, "at 0 spin |12;");
            E.told(m, 3, "web 11 near 10;", 1);
            E.faulty(m, 3, 2, "web |12 near 0;", "web 0 near |12;");
        });
        E.says(12, "the same WEB again (of NEAR, behind near)", m -> {
            populated(m);
            E.faulty(m, 3, 2, "web 0 near |0;", "web 1 near 0;web 1 near |1;", "web 1 near |0001;", "web |2 near 2;");
        });
    }

    private static void fault12() {
        E.says(12, "Of the latest text() what 0 the FAULT (0 without one), 1 its place (NONE). NONE for another what.", m -> {
            E.eq("at first", m.fault(0), 0);
            E.none("at first", m.fault(1));
            E.faulty(m, 0, 2, "forms 1/|0;");
            m.feed(0, 0, 0, 0, 0);
            m.end(0);
            m.web(0, 1);
            m.minutes(1);
            m.undo();
            E.eq("it stays", m.fault(0), 2);
            E.eq("it stays", m.fault(1), 8);
            E.none("another what", m.fault(2));
            E.none("another what", m.fault(-1));
            E.none("another what", m.fault(MIN));
            E.none("another what", m.fault(MAX));
            E.told(m, 0, "", 0);
            E.none("another what", m.fault(2));
        });
    }

    private static void outOfPlace12() {
        E.says(12, "0 THE LAW = {(forms | dries | tears) E [when B] ;}", m -> {
            E.told(m, 0, "", 0);
            E.told(m, 0, "forms 1;dries 1;tears 1;", 3);
            E.told(m, 0, "tears 1 when 1=1;dries 1 when 1=1;forms 1 when 1=1;", 3);
            E.faulty(m, 0, 1, "forms 1;|;", "forms 1 |dries 1;", "forms 1 when 1=1 |forms 1;", "forms |x;");
        });
        E.says(12, "U = NUMBER | beads | spun | place | near | torn | mist | sun | wind | minute", m -> {
            for (String word : "beads spun place near torn mist sun wind minute".split(" ")) {
                E.told(m, 0, "forms " + word + ";tears 1+" + word + "*" + word + " when " + word + "=" + word + ";", 2);
                E.faulty(m, 0, 1, "forms |" + word + "s;", "|" + word + ";", "forms 1/|" + word + ";", "forms 1 |" + word + ";");
            }
        });
        E.says(12, "1 what can't stand there", m -> {
            E.faulty(m, 0, 1, "|;", "|1;", "|+", "|when 1=1;", "|beads;", "|not", "|(", "forms |;", "forms |when 1=1;",
                    "forms |not 1=1;", "forms |(1);", "forms |+1;", "forms |forms 1;", "forms 1 |1;", "forms 1 |beads;",
                    "forms 1 |=1;", "forms 1 |or 1=1;", "forms 1|);", "forms 1+|+1;", "forms 1*|/1;", "forms 1+|;");
        });
        E.says(12, "C = E (< | = | >) E | not C | ( B )", m -> {
            E.faulty(m, 0, 1, "forms 1 when |;", "forms 1 when 1|;", "forms 1 when 1=|;", "forms 1 when |=1;",
                    "forms 1 when 1=1|=1;", "forms 1 when 1<|>1;", "forms 1 when 1=|(1);", "forms 1 when (1|);",
                    "forms 1 when (1=1|;", "forms 1 when 1=1|);", "forms 1 when (|);", "forms 1 when not |;",
                    "forms 1 when 1=1 |not 1=1;", "forms 1 when 1=1 |1=1;", "forms 1 when 1=1 and |and 1=1;",
                    "forms 1 when 1=1 or |;", "forms 1 when |or 1=1;", "forms 1 when 1=1 |when 1=1;",
                    "forms 1 when (1=1) |(1=1);", "forms 1 when (1=1)|+1=1;", "forms 1 when (1=1)|=1;",
                    "forms 1 when not 1|;", "forms 1 when 1 |and 1=1;", "forms 1 when 1=1 and (1=1 or 1=1|;");
        });
        E.says(12, "T = U {* U | / NUMBER}", m -> {
            E.faulty(m, 0, 1, "forms 4/|beads;", "forms 4/|;", "forms 4/|/2;", "forms 4*|-2;", "forms 4/|(2);",
                    "forms beads |beads;", "forms 4/|12345;");
            E.told(m, 0, "forms 1/9999;forms 1/1;forms 1/0001*beads/2;", 3);
        });
    }

    private static void tokens12() {
        E.says(12, "letters (a .. z, A .. Z) as many as stand together are KEYWORDS", m -> {
            E.faulty(m, 0, 1, "|Forms 1;", "|FORMS 1;", "|formS 1;", "|form 1;", "|formss 1;", "|formsdries 1;", "|a;",
                    "|z;", "|A;", "|Z;", "|formsz 1;", "|formsA 1;", "|formsZ 1;", "forms |beadsbeads;", "forms |bead;",
                    "forms |Beads;", "forms 1 |When 1=1;", "forms 1 |whenbeads=1;", "forms 1 when |notbeads=1;");
            E.faulty(m, 0, 1, "forms|@1;", "forms|[1;", "forms|`1;", "forms|{1;", "forms|_1;", "forms 1|.", "forms 1|,",
                    "forms 1|:;", "forms |!1;", "forms |\"1\";", "forms 1 when 1|#1;", "forms |'1;", "forms 1|?;");
            E.told(m, 0, "forms1when1=1and1=1or not1=1;dries1;", 2);
        });
        E.says(12, "digits as many as stand together NUMBERS of 1 to 4 digits or none", m -> {
            E.told(m, 0, "forms 0;forms 0000;forms 9999;forms 0001;", 4);
            E.faulty(m, 0, 1, "forms |10000;", "forms |00000;", "forms |00001;", "forms |1234567890;", "forms 1+|99999;",
                    "forms 1 |2;", "forms 1 when 1=|12345;", "forms 1/|00001;", "forms |00000000000000000000000000000001;");
            populated(m);
            E.faulty(m, 1, 1, "at |00000 gatherer 0 go 1;", "at 0 gatherer |00000 go 1;", "at 0 gatherer 0 go |10000;");
            E.faulty(m, 2, 1, "at |10000 sun 1;", "at 0 sun |00001;");
            E.faulty(m, 3, 1, "web |00000 near 1;", "web 0 near |00001;");
            E.told(m, 1, "at 0999 gatherer 0000 sell 0000 0040;", 1);
            E.told(m, 3, "web 0000 near 0001;", 1);
        });
        E.says(12, "; + - * / ( ) < = > .", m -> {
            E.told(m, 0, "forms 1+2-3*4/5 when (1<2 or 1=2) and 2>1;", 1);
            E.faulty(m, 0, 1, "forms 1|.", "forms 1|.5;", "forms 1 when 1<|=2;", "forms 1|%2;", "forms 1 when 1|!=2;");
        });
    }

    private static void blanks12() {
        E.says(12, "Blanks (32, 10) between.", m -> {
            E.told(m, 0, "\n forms\n\n1 \n when  1\n=\n1\n;\n\n", 1);
            for (int sign = 0; sign < 256; sign++) {
                String text = "forms " + (char) sign + " 1;";
                boolean letter = sign >= 'a' && sign <= 'z' || sign >= 'A' && sign <= 'Z';
                if (sign == 32 || sign == 10) {
                    E.told(m, 0, text, 1);
                } else {
                    // a digit can stand there, then the 1 can not
                    boolean digit = sign >= '0' && sign <= '9';
                    E.none("sign " + sign, Check.tell(m, 0, text));
                    E.eq("FAULT of sign " + sign + (letter ? ", a letter" : ""), m.fault(0), 1);
                    E.eq("place of sign " + sign, m.fault(1), digit ? 8 : 6);
                }
            }
        });
        E.says(12, "Blanks (32, 10) between.", m -> {
            E.faulty(m, 0, 1, "|for ms 1;", "forms 1 |0;", "forms |\t1;", "forms 1;|\r\n", "forms 1 |\r\n;", "|\u00a0forms 1;");
            populated(m);
            E.told(m, 1, "at1gatherer0go1;at\n2\ngatherer\n0\ntake\n3\n;", 2);
            E.told(m, 2, "at1sun1;\nat 2 spin\n0 ;", 2);
            E.told(m, 3, "web0near1;", 1);
        });
    }

    private static void otherTextsWords12() {
        E.says(12, "KEYWORDS (those told here for that text) or none", m -> {
            populated(m);
            String[] strange = {"at", "gatherer", "go", "take", "sell", "spin", "web", "law", "paths", "sky", "need"};
            for (String word : strange) {
                E.faulty(m, 0, 1, "|" + word + " 1;", "forms |" + word + ";", "forms 1 |" + word + " 1=1;");
            }
            String[] ofTheLaw = {
                "forms", "dries", "tears", "when", "or", "and", "not", "beads", "spun", "place", "near", "torn", "minute"
            };
            for (String word : ofTheLaw) {
                E.faulty(m, 1, 1, "|" + word + " 1;", "at 0 |" + word + " 0 go 1;", "at 0 gatherer 0 |" + word + " 1;");
                E.faulty(m, 2, 1, "|" + word + " 1;", "at 0 |" + word + " 1;");
            }
            E.faulty(m, 1, 1, "at 0 gatherer 0 |mist 1;", "at 0 gatherer 0 |spin 1;", "at 0 |mist 1;", "|web 0 near 1;");
            E.faulty(m, 2, 1, "at 0 |gatherer 0 go 1;", "at 0 |go 1;", "at 0 |web 1;", "|web 0 near 1;");
            E.faulty(m, 3, 1, "|at 0 sun 1;", "|forms 1;", "web 0 |web 1;", "web 0 |spin 1;", "|near 0 web 1;");
        });
    }

    private static void theEnd12() {
        E.says(12, "(the end: the text's length)", m -> {
            E.faulty(m, 0, 1, "forms|", "forms |", "forms 1|", "forms 1 when|", "forms 1 when 1|", "forms 1 when 1=|",
                    "forms 1 when 1=1|", "forms 1 when (1=1|", "forms 1 when (1=1)|", "forms 1 when not|", "forms 1+|",
                    "forms 1/|", "forms 1;dries|", "forms 1   \n\n|", "forms 1 \n |");
            populated(m);
            E.faulty(m, 1, 1, "at|", "at 0|", "at 0 gatherer|", "at 0 gatherer 0|", "at 0 gatherer 0 go|",
                    "at 0 gatherer 0 go 1|", "at 0 gatherer 0 sell 0|", "at 0 gatherer 0 sell 0 1 |");
            E.faulty(m, 2, 1, "at|", "at 0|", "at 0 sun|", "at 0 sun 1|", "at 0 spin 1 \n|");
            E.faulty(m, 3, 1, "web|", "web 0|", "web 0 near|", "web 0 near 1|", "web 0 near 1;web 1 near 0|");
        });
        E.says(12, "(the end: the text's length)", m -> {
            String whole = "forms 1" + "+1".repeat(196);
            E.told(m, 0, whole + ";", 1);
            E.faulty(m, 0, 1, whole + "+|", whole + "|", whole + " |", "forms 1" + "+1".repeat(190) + " ".repeat(13) + "|");
            E.faulty(m, 0, 1, "|" + ";".repeat(400), "|" + "a".repeat(400), "|" + "1".repeat(400));
            E.faulty(m, 0, 3, "forms 1 when ((((((((|" + "(".repeat(379));
            E.told(m, 0, " ".repeat(400), 0);
        });
        E.says(11, "The TAPE, empty then (whatever k, with a FAULT too), is TEXT k", m -> {
            // a whole tape each time: what was read before, with a FAULT too, takes no room
            populated(m);
            for (int i = 1; i <= 9; i++) {
                E.faulty(m, 0, 1, "forms " + i + "+1-1".repeat(98) + "+|");
                E.told(m, 0, "forms " + i + "+1-1".repeat(98) + ";", 1);
                E.eq("forms", m.of(0, 4), i);
            }
            E.told(m, 0, "forms 7 when " + "1=1 and ".repeat(47) + "1=1;", 1);
            E.eq("all are so", m.of(0, 4), 7);
            E.told(m, 0, "forms 7 when " + "1=1 and ".repeat(47) + "1=2;", 1);
            E.eq("the last is not", m.of(0, 4), 0);
        });
    }

    private static void whichFault12() {
        E.says(12, "FAULTS, the first by its place, at one place the least", m -> {
            populated(m);
            E.faulty(m, 0, 2, "forms 1/|0+;", "forms 1/|0 x;", "forms 1/|0");
            E.faulty(m, 0, 1, "forms 1+|;dries 1/0;", "forms 1 |x;dries 1/0;", "|x forms 1/0;");
            E.faulty(m, 0, 3, "forms 1 when ((((((((|(1=1/0;", "forms 1 when ((((((((|( x");
            E.faulty(m, 0, 2, "forms 1 when 1/|0=1 and (((((((((1=1;", "forms 1/|0;" + "forms 1;".repeat(17));
            E.faulty(m, 1, 2, "at |1000 gatherer 5 go 20;", "at 0 gatherer |5 go 20;", "at 0 gatherer 0 sell |5 41;");
            E.faulty(m, 1, 2, "at |1000 x", "at 0 gatherer |1 x");
            E.faulty(m, 2, 2, "at |1000 sun 10;");
            E.faulty(m, 3, 2, "web |2 near 2;", "web |2 x");
            E.faulty(m, 3, 1, "web 0 |x 2;");
            E.faulty(m, 2, 2, "at 0 sun |10" + ";at 0 sun 1".repeat(20));
        });
        E.says(12, "at one place the least", m -> {
            populated(m);
            // what can't stand there, though it would be the 17th line, the ninth that is open or out of bounds
            E.faulty(m, 0, 1, "forms 1;".repeat(16) + "|beads", "forms 1;".repeat(16) + "|;", "forms 1;".repeat(16) + "|at 1");
            E.faulty(m, 0, 1, "forms 1 when ((((((((1|(", "forms 1 when ((((((((1=|(", "forms 1 when ((((((((1=1 |not 1=1");
            E.faulty(m, 1, 1, "at |10000 gatherer 0 go 1;", "at 0 gatherer |00000 go 1;", LINES[1].repeat(16) + "|go");
            E.faulty(m, 2, 1, LINES[2].repeat(16) + "|sun");
            E.faulty(m, 3, 1, "web 0 near |00000;", LINES[3].repeat(16) + "|near", LINES[3].repeat(16) + "|at");
            E.faulty(m, 0, 1, "forms 1/|00000;");
        });
    }

    private static void parts12() {
        E.says(12, "2 (at the NUMBER) a part by 0", m -> {
            E.faulty(m, 0, 2, "forms 1/|0;", "forms 1/|00;", "forms 1/|000;", "forms 1/ |0000;", "forms 1*2/|0;",
                    "forms 1/2/|0;", "forms 1+beads/|0;", "forms 1 when 1=1/|0;", "forms 1 when 1/|0=1;",
                    "forms 0/|0;", "forms 1;dries 1;tears 1/\n|0;");
            E.told(m, 0, "forms 0/1;forms 1*0;forms 1-0;forms 1/1;forms 0/9999;", 5);
        });
    }

    private static void manyLines12() {
        E.says(12, "3 (at its KEYWORD) the 17th line of a text", m -> {
            populated(m);
            String sixteen = "forms 1;".repeat(16);
            E.faulty(m, 0, 3, sixteen + "|forms 1;", sixteen + "|dries 1;", sixteen + "|tears 1;", sixteen + "  |forms",
                    sixteen + "\n|dries ;", sixteen + "|tears 1/0;", sixteen + "|forms 1;forms 1;");
            E.told(m, 0, sixteen + " \n", 16);
            E.faulty(m, 1, 3, LINES[1].repeat(16) + "|at", LINES[1].repeat(16) + " |at 1000");
            E.faulty(m, 2, 3, LINES[2].repeat(16) + "|at", LINES[2].repeat(16) + " |at 1000");
            E.faulty(m, 3, 3, LINES[3].repeat(16) + "|web", LINES[3].repeat(16) + " |web 9");
        });
    }

    private static void open12() {
        E.says(12, "(at it) the 9th ( or not that is open", m -> {
            E.faulty(m, 0, 3, "forms 1 when ((((((((|(1=1)))))))));", "forms 1 when not not not not not not not not |not 1=1;",
                    "forms 1 when not (not (not (not (|not 1=1))));", "forms 1 when (not (not (not (not |(1=1))))));",
                    "forms 1 when (1=1) and ((((((((|(", "forms 1 when 1=1 or ((((((((1=1 and |(",
                    "forms 1 when ((((((((1=1 or |not 1=1))))))));",
                    "forms 1 when not not not not not not not (1=1 and |(1=1));");
        });
        E.says(12, "(at it) the 9th ( or not that is open", m -> {
            E.told(m, 0, "forms 1 when ((((((((1=1))))))));", 1);
            E.told(m, 0, "forms 1 when not not not not not not not not 1=1;", 1);
            E.told(m, 0, "forms 1 when not (not (not (not (1=1))));", 1);
            // those that are shut again, or whose C is over, are not open
            E.told(m, 0, "forms 1 when (1=1) and (1=1) and (1=1) and (1=1) and (1=1) and (1=1) and (1=1) and (1=1) and (1=1);", 1);
            E.told(m, 0, "forms 1 when not 1=1 or not 1=1 or not 1=1 or not 1=1 or not 1=1 or not 1=1 or not 1=1 or not 1=1"
                    + " or not 1=1;", 1);
            E.told(m, 0, "forms 1 when (((((((not 1=1 and (1=1) and not 1=1)))))));", 1);
            E.told(m, 0, "forms 1 when ((((((((1=1))))))));forms 1 when ((((((((1=1))))))));", 2);
            E.told(m, 0, "forms 1 when not not not not not not not (1=1) and (((((((1=1)))))));", 1);
        });
    }

    /** What the law tells web 0 for forms, by this sum. */
    private static int forms(DewMarket m, String sum) {
        Check.tell(m, 0, "forms " + sum + ";");
        return m.of(0, 4);
    }

    private static void grammar13() {
        E.says(13, "E = T {(+ | -) T}", m -> {
            populated(m);
            E.eq("from the left", forms(m, "20-5-6"), 9);
            E.eq("from the left", forms(m, "9-5+6"), 10);
            E.eq("* before +", forms(m, "2+3*4"), 14);
            E.eq("* before -", forms(m, "19-3*4-2"), 5);
            E.eq("both sides", forms(m, "2*3+4*2-3*1"), 11);
        });
        E.says(13, "T = U {* U | / NUMBER}", m -> {
            populated(m);
            E.eq("from the left", forms(m, "2*7/4"), 3);
            E.eq("from the left", forms(m, "7/4*2"), 2);
            E.eq("from the left", forms(m, "40/3/4"), 3);
            E.eq("in a sum", forms(m, "1+7/2+1"), 5);
            E.eq("by 1", forms(m, "7/1"), 7);
            E.eq("by the greatest", forms(m, "9999/9999"), 1);
            E.eq("less than the greatest", forms(m, "9998/9999"), 0);
        });
        E.says(13, "B = A {or A}. A = C {and C}.", m -> {
            populated(m);
            for (int row = 0; row < 8; row++) {
                allWays(m, (row & 4) != 0, (row & 2) != 0, (row & 1) != 0);
            }
        });
        E.says(13, "B = A {or A}. A = C {and C}.", m -> {
            populated(m);
            String[] so = {
                "1=1 or 1=1 and 1=2", "1=2 and 1=1 or 1=1", "1=2 or 1=2 or 1=1", "1=1 and 1=1 and 1=1", "not 1=2 or 1=2",
                "not 1=2 and 1=1", "not (1=1 and 1=2)", "not not 1=1", "(1=2 or 1=1) and 1=1", "1=2 and 1=2 or 1=1 and 1=1"
            };
            for (String each : so) {
                E.eq(each, forms(m, "7 when " + each), 7);
                E.eq("not " + each, forms(m, "7 when not (" + each + ")"), 0);
            }
        });
        E.says(13, "C = E (< | = | >) E | not C | ( B )", m -> {
            populated(m);
            E.eq("1<2", forms(m, "7 when 1<2"), 7);
            E.eq("1<1", forms(m, "7 when 1<1"), 0);
            E.eq("2>1", forms(m, "7 when 2>1"), 7);
            E.eq("1>1", forms(m, "7 when 1>1"), 0);
            E.eq("1=1", forms(m, "7 when 1=1"), 7);
            E.eq("1=2", forms(m, "7 when 1=2"), 0);
            E.eq("2=1", forms(m, "7 when 2=1"), 0);
            E.eq("below 0", forms(m, "7 when 0-1<0"), 7);
            E.eq("not of the first alone", forms(m, "7 when not 1=1 or 1=1"), 7);
            E.eq("not of the first alone", forms(m, "7 when not 1=2 and 1=2"), 0);
        });
    }

    /** One row of the table of truth: conditions of three that are so or not, by each of the three signs. */
    private static void allWays(DewMarket m, boolean first, boolean second, boolean third) {
        String a = first ? "1<2" : "1>2";
        String b = second ? "1=1" : "1<1";
        String c = third ? "2>1" : "1=2";
        is(m, a, first);
        is(m, "not " + a, !first);
        is(m, "not not " + c, third);
        is(m, a + " and " + b, first && second);
        is(m, a + " or " + b, first || second);
        is(m, a + " and (" + c + ")", first && third);
        is(m, a + " or (" + c + ")", first || third);
        is(m, a + " and not " + b, first && !second);
        is(m, "not " + a + " or " + c, !first || third);
        is(m, "not (" + a + " or " + c + ")", !(first || third));
        is(m, "not (" + a + " and " + b + ")", !(first && second));
        is(m, a + " and " + b + " and " + c, first && second && third);
        is(m, a + " or " + b + " or " + c, first || second || third);
        is(m, a + " and " + b + " or " + c, first && second || third);
        is(m, a + " or " + b + " and " + c, first || second && third);
        is(m, "(" + a + " or " + b + ") and " + c, (first || second) && third);
        is(m, a + " and (" + b + " or " + c + ")", first && (second || third));
        is(m, a + " or (" + b + " and not " + c + ")", first || second && !third);
        is(m, "(" + a + ") and ((" + b + ") or not (" + c + "))", first && (second || !third));
    }

    private static void deep13() {
        E.says(13, "B = A {or A}. A = C {and C}. C = E (< | = | >) E | not C | ( B ).", m -> {
            // eight open, at each level two that wait for what is within
            populated(m);
            String down = "1=2 or 1=1 and (".repeat(8);
            String up = ")".repeat(8);
            is(m, down + "2+3*4/5-1=3" + up, true);
            is(m, down + "2+3*4/5-1=4" + up, false);
            is(m, "not (1=2 or 1=1 and ".repeat(4) + "1+1*2>2" + ")".repeat(4), true);
            is(m, "not (1=2 or 1=1 and ".repeat(3) + "1+1*2>2" + ")".repeat(3), false);
        });
    }

    private static void is(DewMarket m, String condition, boolean so) {
        E.eq(condition, forms(m, "7 when " + condition), so ? 7 : 0);
    }

    private static void wrapping13() {
        E.says(13, "Ints, which wrap; / goes towards 0.", m -> {
            populated(m);
            int cube = 9999 * 9999 * 9999;
            E.yes("the cube wraps below 0", cube < 0);
            E.eq("cube", forms(m, "7 when 9999*9999*9999<0"), 7);
            // 2^31 - 1 = 9999 * 2147 * 100 + 798347, and one more is the least int
            int near = 9999 * 2147 * 100;
            int left = MAX - near;
            String most = "9999*2147*100+" + left / 1000 + "*1000+" + left % 1000;
            E.eq("the greatest", forms(m, "7 when " + most + ">0"), 7);
            E.eq("one more", forms(m, "7 when " + most + "+1<0"), 7);
            E.eq("and one less again", forms(m, "7 when " + most + "+1-1>0"), 7);
            E.eq("the least less one", forms(m, "7 when 0-1-" + most.replace("+", "-") + "-1>0"), 7);
            E.eq("two to the 32nd is 0", forms(m, "7 when 4096*4096*256=0"), 7);
        });
        E.says(13, "/ goes towards 0", m -> {
            populated(m);
            // a product below 0 that no part divides
            int product = 9999 * 9999 * 30;
            E.yes("below 0", product < 0);
            for (int by : new int[] {2, 7, 9, 1000, 9999}) {
                int part = product / by;
                String told = "9999*9999*30/" + by;
                String due = "0-" + -(long) part / 1000 + "*1000-" + -(long) part % 1000;
                if (-(long) part / 1000 <= 9999) {
                    E.eq(told, forms(m, "7 when " + told + "=" + due), 7);
                }
                E.eq(told + " below 0", forms(m, "7 when " + told + "<1"), 7);
            }
            E.eq("above 0", forms(m, "7/4"), 1);
            E.eq("0", forms(m, "3/4"), 0);
        });
        E.says(13, "Quotients go downwards.", m -> {
            // but not in THE LAW: half of a number below 0 that is odd
            populated(m);
            int odd = 9999 * 9999 * 9999;
            E.yes("odd and below 0", odd % 2 == -1);
            E.eq("towards 0", forms(m, "7 when 9999*9999*9999/2*2>9999*9999*9999"), 7);
        });
    }

    private static void heldTo13() {
        E.says(13, "forms, dries held to 0 .. 20, tears to 0 .. 1000", m -> {
            populated(m);
            String[] sums = {"0-9999", "0-1", "0", "1", "19", "20", "21", "9999", "9999*9999*9999", "9999*9999"};
            int[] due = {0, 0, 0, 1, 19, 20, 20, 20, 0, 20};
            for (int i = 0; i < sums.length; i++) {
                Check.tell(m, 0, "forms " + sums[i] + ";");
                E.eq("forms " + sums[i], m.of(0, 4), due[i]);
                Check.tell(m, 0, "dries " + sums[i] + ";");
                E.eq("dries " + sums[i], m.of(0, 5), due[i]);
            }
        });
        E.says(13, "forms, dries held to 0 .. 20, tears to 0 .. 1000", m -> {
            populated(m);
            String[] sums = {"0-1", "0", "1", "20", "21", "999", "1000", "1001", "9999*9999"};
            int[] due = {0, 0, 1, 20, 21, 999, 1000, 1000, 1000};
            for (int i = 0; i < sums.length; i++) {
                Check.tell(m, 0, "tears " + sums[i] + ";");
                E.eq("tears " + sums[i], m.of(0, 6), due[i]);
            }
        });
    }

    private static void whichLine13() {
        E.says(13, "E of the first line with that word whose B is so, or that has none", m -> {
            populated(m);
            E.told(m, 0, "dries 9;forms 1 when 1=2;forms 2 when 1=1;forms 3;dries 8;", 5);
            E.eq("the first that is so", m.of(0, 4), 2);
            E.eq("the first of that word", m.of(0, 5), 9);
            E.told(m, 0, "forms 3;forms 2 when 1=1;", 2);
            E.eq("the first, that has none", m.of(0, 4), 3);
            E.told(m, 0, "forms 1 when 1=2;forms 3;forms 4;", 3);
            E.eq("the first that has none", m.of(0, 4), 3);
            E.told(m, 0, "forms place when place=5;forms 1;", 2);
            E.eq("not of this web", m.of(0, 4), 1);
            E.eq("of that web", m.of(1, 4), 5);
        });
        E.says(13, "(none: forms: mist, dries: sun, tears: 100 times wind)", m -> {
            populated(m);
            int[][] skies = {{0, 0, 0}, {9, 9, 9}, {1, 2, 3}};
            for (int[] sky : skies) {
                for (int i = 0; i < 3; i++) {
                    m.set(3 + i, 0, sky[i]);
                }
                E.told(m, 0, "", 0);
                E.eq("forms", m.of(0, 4), sky[0]);
                E.eq("dries", m.of(0, 5), sky[1]);
                E.eq("tears", m.of(0, 6), 100 * sky[2]);
                E.told(m, 0, "forms 15 when 1=2;dries 15 when 1=2;tears 15 when 1=2;", 3);
                E.eq("forms, none is so", m.of(0, 4), sky[0]);
                E.eq("dries, none is so", m.of(0, 5), sky[1]);
                E.eq("tears, none is so", m.of(0, 6), 100 * sky[2]);
                E.told(m, 0, "forms 15;", 1);
                E.eq("dries, none of that word", m.of(0, 5), sky[1]);
                E.eq("tears, none of that word", m.of(0, 6), 100 * sky[2]);
            }
        });
    }

    private static void words13() {
        E.says(13, "near: how many WEBS are near it; torn: how many WEBS are TORN", m -> {
            for (int i = 0; i < 12; i++) {
                m.web(0, 3);
            }
            m.gatherer(0);
            E.eq("none near", forms(m, "near"), 0);
            E.eq("none torn", forms(m, "torn"), 0);
            StringBuilder near = new StringBuilder();
            for (int i = 1; i < 12; i++) {
                near.append("web ").append(i % 2 == 0 ? i : 0).append(" near ").append(i % 2 == 0 ? 0 : i).append(";");
            }
            E.told(m, 3, near.toString(), 11);
            E.eq("all others are near", forms(m, "near"), 11);
            Edges.tearWeb(m, 1, 0);
            Edges.tearWeb(m, 0, 0);
            E.eq("those torn are near, too", forms(m, "near"), 11);
            E.eq("two are torn", forms(m, "torn"), 2);
            Check.tell(m, 0, "forms torn;");
            E.eq("of another web, too", m.of(11, 4), 2);
        });
        E.says(13, "beads, spun, place: the WEB's", m -> {
            m.web(19, 20);
            m.web(0, 1);
            m.set(0, 0, 18);
            m.set(0, 1, 3);
            E.told(m, 0, "forms beads;dries spun;tears place;", 3);
            E.eq("beads", m.of(0, 4), 18);
            E.eq("spun", m.of(0, 5), 20);
            E.eq("place", m.of(0, 6), 19);
            E.eq("beads", m.of(1, 4), 3);
            E.eq("spun", m.of(1, 5), 1);
            E.eq("place", m.of(1, 6), 0);
        });
        E.says(13, "mist; sun; wind; minute", m -> {
            m.web(0, 1);
            m.set(3, 0, 9);
            m.set(4, 0, 8);
            m.set(5, 0, 7);
            E.eq("mist", forms(m, "mist"), 9);
            E.eq("sun", forms(m, "sun"), 8);
            E.eq("wind", forms(m, "wind"), 7);
            E.eq("minute", forms(m, "minute"), 0);
            m.minutes(19);
            E.eq("minute", forms(m, "minute"), 19);
            Check.tell(m, 0, "tears minute;");
            m.minutes(60);
            E.eq("minute", m.of(0, 6), 79);
        });
    }
}
