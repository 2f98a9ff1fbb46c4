import java.io.IOException;
import java.nio.file.Files;
import java.nio.file.Path;
import java.util.ArrayList;
import java.util.List;
import java.util.Set;
import java.util.TreeSet;
import java.util.function.Consumer;

/**
 * Sentences of the document that name a boundary case, each with a test of its own on a new object.
 *
 * A sentence is given by its promise's number and its own words; that these stand in the document is tested, too.
 */
final class Edges {
    static final int NONE = DewMarket.NONE;
    static final int MIN = Integer.MIN_VALUE;
    static final int MAX = Integer.MAX_VALUE;

    private final Check check = new Check();
    private final String document;
    private final Set<Integer> promises = new TreeSet<>();
    private String label = "";

    Edges() {
        this.document = readDocument();
    }

    private static String readDocument() {
        try {
            return plain(Files.readString(Path.of("../shared/DOC.md")));
        } catch (IOException e) {
            System.out.println("the document can't be read, so the sentences are not looked up: " + e);
            return null;
        }
    }

    private static String plain(String text) {
        return text.replace("```text", " ").replace("```", " ").replaceAll("\\s+", " ");
    }

    /** One sentence with its test, which gets a new object. */
    void says(int promise, String sentence, Consumer<DewMarket> test) {
        label = promise + " '" + sentence + "': ";
        promises.add(promise);
        if (document != null) {
            check.yes(label + "stands in the document", document.contains(plain(sentence)));
        }
        int before = check.count();
        test.accept(new DewMarket());
        check.yes(label + "was tested", check.count() > before);
    }

    void eq(String what, long got, long want) {
        check.eq(label + what, got, want);
    }

    void yes(String what, boolean got) {
        check.yes(label + what, got);
    }

    void no(String what, boolean got) {
        check.no(label + what, got);
    }

    void none(String what, int got) {
        check.eq(label + what, got, NONE);
    }

    /** A text that has so many lines. */
    void told(DewMarket m, int k, String text, int lines) {
        eq("text " + k + " '" + text + "'", Check.tell(m, k, text), lines);
        eq("no FAULT of '" + text + "'", m.fault(0), 0);
        eq("no place of a FAULT of '" + text + "'", m.fault(1), NONE);
    }

    /** A text that is refused; a | stands where the FAULT is. */
    void faulty(DewMarket m, int k, int fault, String... texts) {
        for (String marked : texts) {
            int place = marked.indexOf('|');
            String text = marked.replace("|", "");
            eq("text " + k + " '" + marked + "'", Check.tell(m, k, text), NONE);
            eq("FAULT of '" + marked + "'", m.fault(0), fault);
            eq("place of the FAULT of '" + marked + "'", m.fault(1), place);
        }
    }

    void same(String what, List<Integer> got, List<Integer> want) {
        yes(what + ": " + got + " is as " + want, got.equals(want));
    }

    /** Tears a web by taking its only bead; he stands there, and no lesser web there has beads. */
    static void tearWeb(DewMarket m, int web, int gatherer) {
        Check.tell(m, 0, "tears 1000;");
        m.set(0, web, 1);
        m.set(1, gatherer, 0);
        m.act(1, gatherer, 1);
        Check.tell(m, 0, "");
    }

    /** All that can be seen of the hedge, of what is told and of what comes of it. */
    static List<Integer> all(DewMarket m) {
        List<Integer> seen = hedge(m);
        for (int what = 11; what <= 15; what++) {
            seen.add(m.look(what));
        }
        seen.addAll(thought(m));
        return seen;
    }

    static List<Integer> hedge(DewMarket m) {
        List<Integer> seen = new ArrayList<>();
        for (int what = 0; what <= 10; what++) {
            seen.add(m.look(what));
        }
        for (int web = 0; web < m.look(0); web++) {
            for (int what = 0; what <= 7; what++) {
                seen.add(m.of(web, what));
            }
        }
        for (int gatherer = 0; gatherer < m.look(1); gatherer++) {
            for (int what = 0; what <= 3; what++) {
                seen.add(m.who(gatherer, what));
            }
        }
        for (int mourner = 0; mourner < m.look(2); mourner++) {
            for (int what = 0; what <= 4; what++) {
                seen.add(m.weeper(mourner, what));
            }
        }
        for (int line = 0; line < m.look(9); line++) {
            for (int what = 0; what <= 3; what++) {
                seen.add(m.book(line, what));
            }
        }
        return seen;
    }

    static List<Integer> thought(DewMarket m) {
        List<Integer> seen = new ArrayList<>(List.of(m.hangs(), m.determinant(), m.chords(0), m.chords(1), m.round(0),
                m.round(1), m.leaks(0), m.leaks(1), m.runs(0), m.runs(1)));
        for (int what = 0; what <= 2; what++) {
            seen.add(m.order(what));
            seen.add(m.stack(what));
        }
        for (int x = 0; x <= 99; x += 9) {
            seen.add(m.marks(x, 0));
            seen.add(m.marks(x, 1));
        }
        return seen;
    }

    void close(String name, int... wanted) {
        label = "";
        for (int promise : wanted) {
            yes("promise " + promise + " has a sentence", promises.contains(promise));
        }
        check.close(name);
    }
}
