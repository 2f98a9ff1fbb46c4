import java.util.List;
import java.util.function.Consumer;

/** Boundary cases of UNDO and THE IMAGE: promises 42 and 43. */
public final class EdgeUndoTests {
    private static final Edges E = new Edges();
    private static final int NONE = Edges.NONE;
    private static final int MIN = Edges.MIN;
    private static final String FORGETS = "whatever else is told but THE LAW, NEAR and what is told for thought"
            + " (HANGS, MARKS, CHORDS, ROUND, ORDER, STACK, RUNS, LEAKS)"
            + " (feed(), end(), what is refused, a text with a FAULT, the taking of THE IMAGE do not) forgets them";

    public static void main(String[] args) {
        nothing42();
        oneByOne42();
        sixAreKept42();
        eachDeed42();
        stateAndBook42();
        forgotten42();
        toldForThought42();
        notForgotten42();
        refused42();
        lawAndNearStay42();
        noImage43();
        image43();
        imageIsWhole43();
        imageWithout43();
        imageAndUndo43();
        E.close("EdgeUndoTests", 42, 43);
    }

    /** Two webs with beads, one gatherer with some, two mourners in need, all at place 0. */
    private static void populated(DewMarket m) {
        m.web(0, 10);
        m.web(0, 10);
        m.gatherer(0);
        m.mourner(0, 20, 3);
        m.mourner(0, 20, 4);
        m.set(0, 0, 20);
        m.set(0, 1, 20);
        m.set(1, 0, 10);
        m.set(3, 0, 1);
        m.set(4, 0, 2);
        m.set(5, 0, 3);
    }

    private static void nothing42() {
        E.says(42, "UNDO: true; false if there is nothing.", m -> {
            E.no("at first", m.undo());
            m.minutes(1);
            E.yes("a minute", m.undo());
            E.no("not twice", m.undo());
            E.eq("back at the first", m.look(8), 0);
            m.minutes(1);
            m.state(0);
            E.no("forgotten", m.undo());
            E.eq("it stays", m.look(8), 1);
        });
    }

    private static void oneByOne42() {
        E.says(42, "the latest MINUTE, SENDING, TAKING, SELLING, SPINNING by hand not undone yet goes back", m -> {
            m.mourner(0, 1, 1);
            m.minutes(3);
            E.eq("each minute of three", m.look(15), 3);
            m.undo();
            E.eq("minute", m.look(8), 2);
            E.eq("dry", m.weeper(0, 3), 2);
            E.eq("two are left", m.look(15), 2);
            m.minutes(1);
            E.eq("three again", m.look(15), 3);
            m.undo();
            m.undo();
            m.undo();
            E.eq("minute", m.look(8), 0);
            E.no("all are undone", m.undo());
        });
    }

    private static void sixAreKept42() {
        E.says(42, "6 are kept", m -> {
            m.gatherer(0);
            for (int i = 1; i <= 5; i++) {
                m.act(0, 0, i);
                E.eq("kept", m.look(15), i);
            }
            m.act(0, 0, 6);
            E.eq("six", m.look(15), 6);
            m.act(0, 0, 7);
            E.eq("not seven", m.look(15), 6);
            for (int i = 6; i >= 1; i--) {
                E.yes("undone", m.undo());
                E.eq("bound", m.who(0, 1), i);
                E.eq("left", m.look(15), i - 1);
            }
            E.no("the oldest is gone", m.undo());
            E.eq("bound", m.who(0, 1), 1);
        });
        E.says(42, "6 are kept", m -> {
            m.minutes(60);
            E.eq("six of sixty", m.look(15), 6);
            for (int i = 0; i < 6; i++) {
                m.undo();
            }
            E.no("no more", m.undo());
            E.eq("minute", m.look(8), 54);
            m.minutes(4);
            m.undo();
            m.minutes(5);
            E.eq("six again", m.look(15), 6);
            for (int minute = 61; minute >= 56; minute--) {
                m.undo();
                E.eq("minute", m.look(8), minute);
            }
            E.no("no more", m.undo());
        });
    }

    private static void eachDeed42() {
        E.says(42, "SENDING, TAKING, SELLING, SPINNING by hand", m -> {
            populated(m);
            Check.tell(m, 3, "web 0 near 1;");
            Check.tell(m, 0, "tears 1000;");
            List<Integer> first = Edges.hedge(m);
            m.act(0, 0, 9);
            List<Integer> sent = Edges.hedge(m);
            m.act(1, 0, 7);
            List<Integer> taken = Edges.hedge(m);
            E.eq("torn", m.look(3), 1);
            m.act(2, 0, 1);
            List<Integer> sold = Edges.hedge(m);
            m.act(3, 0, 0);
            List<Integer> spun = Edges.hedge(m);
            m.minutes(1);
            E.eq("five can be undone", m.look(15), 5);
            m.undo();
            E.same("the minute", Edges.hedge(m), spun);
            m.undo();
            E.same("the spinning", Edges.hedge(m), sold);
            m.undo();
            E.same("the selling", Edges.hedge(m), taken);
            m.undo();
            E.same("the taking", Edges.hedge(m), sent);
            m.undo();
            E.same("the sending", Edges.hedge(m), first);
        });
    }

    private static void stateAndBook42() {
        E.says(42, "(STATE, THE BOOK, too)", m -> {
            populated(m);
            m.state(77);
            m.act(2, 0, 0);
            m.act(1, 0, 1);
            int state = m.look(10);
            E.yes("drawn", state != 77);
            E.yes("in the book", m.look(9) >= 2);
            m.undo();
            E.eq("state", m.look(10), 77);
            E.eq("the book", m.look(9), 1);
            E.none("its line is gone", m.book(1, 0));
            m.act(1, 0, 1);
            E.eq("the same draw", m.look(10), state);
        });
        E.says(42, "(STATE, THE BOOK, too)", m -> {
            populated(m);
            Check.tell(m, 1, "at 0 gatherer 0 take 3;at 0 gatherer 0 sell 0 2;at 0 gatherer 0 sell 1 1;at 1 gatherer 0 sell 0 5;");
            m.state(5);
            List<Integer> first = Edges.hedge(m);
            m.minutes(1);
            List<Integer> second = Edges.hedge(m);
            m.minutes(1);
            m.undo();
            E.same("the second minute", Edges.hedge(m), second);
            m.undo();
            E.same("the first minute", Edges.hedge(m), first);
            m.minutes(1);
            E.same("and forth", Edges.hedge(m), second);
        });
    }

    /** How many can be undone behind what is done, of three before. */
    private static int leftBehind(Consumer<DewMarket> done) {
        DewMarket m = new DewMarket();
        populated(m);
        m.image(true);
        m.minutes(2);
        m.act(0, 0, 5);
        E.eq("three before", m.look(15), 3);
        done.accept(m);
        return m.look(15);
    }

    private static void forgotten42() {
        E.says(42, FORGETS, m -> {
            E.eq("state", leftBehind(d -> d.state(3)), 0);
            E.eq("the same state", leftBehind(d -> d.state(d.look(10))), 0);
            E.eq("web", leftBehind(d -> d.web(0, 1)), 0);
            E.eq("gatherer", leftBehind(d -> d.gatherer(0)), 0);
            E.eq("mourner", leftBehind(d -> d.mourner(0, 0, 1)), 0);
            for (int what = 0; what <= 5; what++) {
                int each = what;
                E.eq("set " + each, leftBehind(d -> d.set(each, 0, 1)), 0);
            }
            E.eq("the same mist", leftBehind(d -> d.set(3, 0, 1)), 0);
            E.eq("PATHS", leftBehind(d -> Check.tell(d, 1, "at 0 gatherer 0 go 1;")), 0);
            E.eq("empty PATHS", leftBehind(d -> d.text(1)), 0);
            E.eq("SKY", leftBehind(d -> Check.tell(d, 2, "at 0 sun 1;")), 0);
            E.eq("empty SKY", leftBehind(d -> d.text(2)), 0);
            E.eq("going back to THE IMAGE", leftBehind(d -> d.image(false)), 0);
        });
    }

    private static void toldForThought42() {
        E.says(42, "what is told for thought (HANGS, MARKS, CHORDS, ROUND, ORDER, STACK, RUNS, LEAKS)", m -> {
            E.eq("thread", leftBehind(d -> d.thread(0, 1)), 3);
            E.eq("no threads", leftBehind(d -> d.thread(NONE, 1)), 3);
            E.eq("cell", leftBehind(d -> d.cell(0, 1)), 3);
            E.eq("mark", leftBehind(d -> d.mark(0, 1)), 3);
            E.eq("no marks", leftBehind(d -> d.mark(NONE, 1)), 3);
            E.eq("chord", leftBehind(d -> d.chord(0, 1)), 3);
            E.eq("no chords", leftBehind(d -> d.chord(NONE, 1)), 3);
            E.eq("stop", leftBehind(d -> d.stop(0, 1)), 3);
            E.eq("no stops", leftBehind(d -> d.stop(NONE, 1)), 3);
            E.eq("digit", leftBehind(d -> d.digit(1)), 3);
            E.eq("no digits", leftBehind(d -> d.digit(NONE)), 3);
            E.eq("sign", leftBehind(d -> d.sign(1)), 3);
            E.eq("no signs", leftBehind(d -> d.sign(NONE)), 3);
            E.eq("run", leftBehind(d -> d.run(1)), 3);
            E.eq("no runs", leftBehind(d -> d.run(NONE)), 3);
            E.eq("hole", leftBehind(d -> d.hole(0, 0, true)), 3);
            E.eq("no hole", leftBehind(d -> d.hole(0, 0, false)), 3);
        });
        E.says(42, "what is told for thought (HANGS, MARKS, CHORDS, ROUND, ORDER, STACK, RUNS, LEAKS)", m -> {
            m.minutes(1);
            tellThoughts(m, 0);
            List<Integer> told = Edges.thought(m);
            m.undo();
            E.same("it is not undone", Edges.thought(m), told);
        });
    }

    private static void notForgotten42() {
        E.says(42, FORGETS, m -> {
            E.eq("THE LAW", leftBehind(d -> Check.tell(d, 0, "forms 1;")), 3);
            E.eq("an empty LAW", leftBehind(d -> d.text(0)), 3);
            E.eq("NEAR", leftBehind(d -> Check.tell(d, 3, "web 0 near 1;")), 3);
            E.eq("empty NEAR", leftBehind(d -> d.text(3)), 3);
            E.eq("feed", leftBehind(d -> d.feed(1, 2, 3, 4, 5)), 3);
            E.eq("end", leftBehind(d -> d.end(0)), 3);
            E.eq("the taking of THE IMAGE", leftBehind(d -> d.image(true)), 3);
            for (int k = 0; k <= 3; k++) {
                int each = k;
                E.eq("a FAULT in text " + k, leftBehind(d -> Check.tell(d, each, "x")), 3);
            }
            E.eq("looking", leftBehind(d -> Edges.all(d)), 3);
            E.eq("goes", leftBehind(d -> d.goes(60, 0)), 3);
            E.eq("weeps", leftBehind(d -> d.weeps(0)), 3);
            E.eq("claims", leftBehind(d -> d.claims(0)), 3);
            E.eq("ones", leftBehind(d -> d.ones(9, 1)), 3);
            E.eq("strung", leftBehind(d -> d.strung(9, 0)), 3);
            E.eq("colours", leftBehind(d -> d.colours(3, 3, 0)), 3);
            E.eq("game", leftBehind(d -> d.game(2, 2, 0)), 3);
            E.eq("fault", leftBehind(d -> d.fault(0)), 3);
        });
    }

    private static void refused42() {
        E.says(42, "what is refused", m -> {
            E.eq("web", leftBehind(d -> d.web(20, 1)), 3);
            E.eq("gatherer", leftBehind(d -> d.gatherer(20)), 3);
            E.eq("mourner", leftBehind(d -> d.mourner(0, 100, 1)), 3);
            E.eq("beads", leftBehind(d -> d.set(0, 0, 31)), 3);
            E.eq("thimble", leftBehind(d -> d.set(1, 0, 41)), 3);
            E.eq("need", leftBehind(d -> d.set(2, 0, 100)), 3);
            E.eq("mist", leftBehind(d -> d.set(3, 0, 10)), 3);
            E.eq("another what", leftBehind(d -> d.set(6, 0, 0)), 3);
            E.eq("sending", leftBehind(d -> d.act(0, 0, 5)), 3);
            E.eq("taking", leftBehind(d -> d.act(1, 0, 0)), 3);
            E.eq("selling", leftBehind(d -> d.act(2, 0, 2)), 3);
            E.eq("spinning", leftBehind(d -> d.act(3, 0, 0)), 3);
            E.eq("another act", leftBehind(d -> d.act(4, 0, 0)), 3);
            E.eq("minutes", leftBehind(d -> d.minutes(61)), 3);
            E.eq("no such text", leftBehind(d -> d.text(4)), 3);
            E.eq("a thread", leftBehind(d -> d.thread(0, 0)), 3);
        });
        E.says(42, "what is refused", m -> {
            for (int i = 0; i < 12; i++) {
                m.web(0, 1);
                m.gatherer(0);
                m.mourner(0, 0, 1);
            }
            m.minutes(1);
            m.web(0, 1);
            m.gatherer(0);
            m.mourner(0, 0, 1);
            E.eq("those for which there is no room", m.look(15), 1);
            m.image(false);
            E.eq("no image to go back to", m.look(15), 1);
        });
    }

    private static void lawAndNearStay42() {
        E.says(42, "but THE LAW, NEAR", m -> {
            populated(m);
            m.minutes(1);
            Check.tell(m, 0, "forms 7;");
            Check.tell(m, 3, "web 0 near 1;");
            E.yes("undone", m.undo());
            E.eq("THE LAW stays", m.look(11), 1);
            E.eq("THE LAW stays", m.of(0, 4), 7);
            E.eq("NEAR stays", m.of(0, 7), 2);
            E.eq("the minute does not", m.look(8), 0);
        });
    }

    private static void noImage43() {
        E.says(43, "THE IMAGE is taken (true), or gone back to (false): true; false if there is none.", m -> {
            m.web(0, 1);
            E.no("none", m.image(false));
            E.eq("nothing changed", m.look(0), 1);
            E.yes("taken", m.image(true));
            m.web(0, 1);
            E.yes("gone back", m.image(false));
            E.eq("one web", m.look(0), 1);
            E.no("of another object", new DewMarket().image(false));
        });
        E.says(43, "THE IMAGE is taken (true), or gone back to (false)", m -> {
            E.yes("of a bare hedge", m.image(true));
            populated(m);
            tellThoughts(m, 1);
            Check.tell(m, 0, "forms 1;");
            Check.tell(m, 1, "at 0 gatherer 0 go 1;");
            Check.tell(m, 2, "at 0 sun 1;");
            Check.tell(m, 3, "web 0 near 1;");
            m.minutes(9);
            m.act(2, 0, 0);
            m.state(9);
            m.image(false);
            E.same("bare again", Edges.all(m), Edges.all(new DewMarket()));
        });
    }

    private static void tellThoughts(DewMarket m, int way) {
        m.thread(NONE, 0);
        for (int i = 0; i < 5; i++) {
            m.thread(i, i + 1);
        }
        if (way == 1) {
            m.thread(5, 0);
        }
        int[] square = {2, 1, 0, 1, 3, 1, 0, 1, 4 + way};
        for (int i = 0; i < 9; i++) {
            m.cell(i, square[i]);
        }
        m.mark(NONE, 0);
        m.mark(9, 1 + way);
        m.mark(81, 50);
        m.chord(NONE, 0);
        m.chord(0, 6);
        m.chord(3, 9 - 5 * way);
        m.stop(NONE, 0);
        m.stop(0, 0);
        m.stop(5, 5 + way);
        m.stop(5, 0);
        m.digit(NONE);
        m.digit(1);
        m.digit(2 + way);
        m.sign(NONE);
        m.sign(4 + way);
        m.sign(13);
        m.run(NONE);
        m.run(4 + way);
        m.run(5 + way);
        m.hole(0, 0, way == 0);
    }

    private static void image43() {
        E.says(43, "as it was when it was taken; gone back to it may be more than once", m -> {
            populated(m);
            tellThoughts(m, 0);
            Check.tell(m, 0, "forms 7;dries beads/3;tears 500 when beads > 3;");
            Check.tell(m, 1, "at 2 gatherer 0 take 3;at 3 gatherer 0 sell 0 2;at 1 gatherer 0 go 1;at 1 gatherer 0 go 0;");
            Check.tell(m, 2, "at 3 wind 8;at 4 spin 0;");
            Check.tell(m, 3, "web 0 near 1;");
            m.state(-5);
            m.act(2, 0, 0);
            E.yes("taken", m.image(true));
            // what can be undone is not of it
            m.set(5, 0, 3);
            List<Integer> then = Edges.all(m);
            List<Integer> later = minuteByMinute(m);
            for (int time = 0; time < 3; time++) {
                tellThoughts(m, 1);
                for (int k = 0; k <= 3; k++) {
                    m.text(k);
                }
                m.web(1, 1);
                m.gatherer(1);
                m.mourner(1, 1, 1);
                m.state(time);
                E.yes("gone back", m.image(false));
                E.same("all is as it was", Edges.all(m), then);
                E.same("and goes on as it did", minuteByMinute(m), later);
            }
        });
        E.says(43, "as it was when it was taken", m -> {
            populated(m);
            m.act(1, 0, 5);
            m.act(2, 0, 1);
            List<Integer> then = Edges.hedge(m);
            int lines = m.look(9);
            m.image(true);
            m.undo();
            m.undo();
            m.minutes(7);
            m.act(1, 0, 4);
            m.act(2, 0, 0);
            m.act(1, 0, 3);
            m.act(2, 0, 0);
            E.yes("THE BOOK has other lines, and more", m.look(9) > lines && m.book(0, 0) == 7);
            m.image(false);
            E.eq("THE BOOK's lines", m.look(9), lines);
            E.same("all lines as they were", Edges.hedge(m), then);
        });
        E.says(43, "as it was when it was taken", m -> {
            m.web(1, 1);
            m.image(true);
            m.web(2, 2);
            m.image(true);
            m.web(3, 3);
            m.image(false);
            E.eq("the later one", m.look(0), 2);
            m.image(false);
            E.eq("once more", m.look(0), 2);
        });
    }

    private static List<Integer> minuteByMinute(DewMarket m) {
        List<Integer> seen = new java.util.ArrayList<>();
        for (int i = 0; i < 6; i++) {
            seen.add(m.minutes(1));
            seen.addAll(Edges.hedge(m));
        }
        return seen;
    }

    private static void imageIsWhole43() {
        E.says(43, "all that is and was told", m -> {
            m.gatherer(0);
            m.mourner(0, 0, 1);
            for (int i = 0; i < 150; i++) {
                m.set(1, 0, 1);
                m.set(2, 0, 1);
                m.act(2, 0, 0);
            }
            m.image(true);
            E.eq("a full book", m.look(9), 150);
            m.minutes(1);
            m.image(false);
            E.eq("a full book", m.look(9), 150);
            E.eq("its last line", m.book(149, 3), 1);
            m.set(1, 0, 1);
            m.set(2, 0, 1);
            m.act(2, 0, 0);
            E.eq("no more then", m.look(9), 150);
        });
        E.says(43, "all that is and was told", m -> {
            for (int i = 0; i < 12; i++) {
                m.web(i, i + 1);
                m.gatherer(i);
                m.mourner(i, i, 1);
                m.thread(0, 1);
                m.sign(i);
                m.run(i % 10);
                m.digit(i % 10);
                m.stop(i, i);
                m.mark(i, i);
                m.chord(i, 11 - i);
            }
            List<Integer> then = Edges.all(m);
            m.image(true);
            m.thread(NONE, 0);
            m.sign(NONE);
            m.run(NONE);
            m.digit(NONE);
            m.stop(NONE, 0);
            m.mark(NONE, 0);
            m.chord(NONE, 0);
            m.image(false);
            E.same("full as it was", Edges.all(m), then);
            E.none("web", m.web(0, 1));
            E.none("gatherer", m.gatherer(0));
            E.none("mourner", m.mourner(0, 0, 1));
            E.none("thread", m.thread(0, 1));
            E.none("sign", m.sign(1));
            E.none("run", m.run(1));
            E.none("digit", m.digit(1));
            E.none("stop", m.stop(1, 1));
            E.none("mark", m.mark(99, 1));
            E.none("chord", m.chord(0, 11));
        });
    }

    private static void imageWithout43() {
        E.says(43, "but the TAPE, fault() and what can be undone (nothing then)", m -> {
            m.feed(0x20202020, 0x20202020, 0x20202020, 0x20202020, 0x20202020);
            m.image(true);
            m.feed(0x20202020, 0x20202020, 0x20202020, 0x20202020, 0x20202020);
            m.image(false);
            E.yes("the TAPE stays as it is", m.end(40));
            E.no("and has no more", m.end(41));
            m.end(0);
            m.image(false);
            E.no("an empty one, too", m.end(1));
        });
        E.says(43, "but the TAPE, fault() and what can be undone (nothing then)", m -> {
            m.image(true);
            E.faulty(m, 0, 2, "forms 1/|0;");
            m.image(false);
            E.eq("fault() stays", m.fault(0), 2);
            E.eq("its place stays", m.fault(1), 8);
            m.image(true);
            E.told(m, 0, "", 0);
            m.image(false);
            E.eq("none now", m.fault(0), 0);
            E.none("none now", m.fault(1));
        });
    }

    private static void imageAndUndo43() {
        E.says(43, "what can be undone (nothing then)", m -> {
            m.minutes(4);
            m.image(true);
            E.eq("taking it keeps them", m.look(15), 4);
            E.yes("undone", m.undo());
            m.image(false);
            E.eq("minute", m.look(8), 4);
            E.eq("nothing then", m.look(15), 0);
            E.no("nothing then", m.undo());
            m.minutes(1);
            E.eq("one", m.look(15), 1);
            E.yes("undone", m.undo());
            E.eq("minute", m.look(8), 4);
            E.no("nothing then", m.undo());
        });
        E.says(43, "THE IMAGE is taken (true), or gone back to (false)", m -> {
            m.minutes(2);
            m.image(true);
            m.undo();
            m.undo();
            E.eq("minute", m.look(8), 0);
            E.yes("undoing does not change it", m.image(false));
            E.eq("minute", m.look(8), 2);
            E.eq("state is of it", m.state(MIN), 0);
            m.image(false);
            E.eq("state is of it", m.look(10), 0);
        });
    }
}
