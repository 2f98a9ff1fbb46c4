import java.util.ArrayList;
import java.util.List;
import java.util.Set;
import java.util.regex.Matcher;
import java.util.regex.Pattern;

/** Reads the four texts as the document's grammar stands, a method for each of its letters. */
final class PlainReader {
    private static final Pattern TOKEN = Pattern.compile("[a-zA-Z]+|[0-9]+|[^ \n]");
    private static final Set<String> WORDS = Set.of(
            "beads", "spun", "place", "near", "torn", "mist", "sun", "wind", "minute");

    private final List<String> tokens = new ArrayList<>();
    private final List<Integer> places = new ArrayList<>();
    private final int webs;
    private final int gatherers;
    private final int mourners;
    private int at;
    private int open;

    PlainReader(String text, int webs, int gatherers, int mourners) {
        Matcher m = TOKEN.matcher(text);
        while (m.find()) {
            tokens.add(m.group());
            places.add(m.start());
        }
        tokens.add("");
        places.add(text.length());
        this.webs = webs;
        this.gatherers = gatherers;
        this.mourners = mourners;
    }

    private PlainMarket.Fault fault(int kind) {
        return new PlainMarket.Fault(kind, places.get(at));
    }

    private boolean next(String token) {
        if (tokens.get(at).equals(token)) {
            at++;
            return true;
        }
        return false;
    }

    private void must(String token) throws PlainMarket.Fault {
        if (!next(token)) {
            throw fault(1);
        }
    }

    private String oneOf(String... some) throws PlainMarket.Fault {
        for (String each : some) {
            if (next(each)) {
                return each;
            }
        }
        throw fault(1);
    }

    private boolean isNumber() {
        return tokens.get(at).matches("[0-9]{1,4}");
    }

    private int number(int low, int high) throws PlainMarket.Fault {
        if (!isNumber()) {
            throw fault(1);
        }
        int v = Integer.parseInt(tokens.get(at));
        if (v < low || v > high) {
            throw fault(2);
        }
        at++;
        return v;
    }

    private boolean atEnd() {
        return at == tokens.size() - 1;
    }

    List<PlainMarket.LawLine> readLaw() throws PlainMarket.Fault {
        List<PlainMarket.LawLine> lines = new ArrayList<>();
        while (!atEnd()) {
            int start = at;
            String word = oneOf("forms", "dries", "tears");
            if (lines.size() == 16) {
                at = start;
                throw fault(3);
            }
            PlainMarket.Sum sum = readE();
            PlainMarket.So so = values -> true;
            if (next("when")) {
                so = readB();
            }
            must(";");
            lines.add(new PlainMarket.LawLine(word, sum, so));
        }
        return lines;
    }

    private PlainMarket.So readB() throws PlainMarket.Fault {
        PlainMarket.So left = readA();
        while (next("or")) {
            PlainMarket.So one = left;
            PlainMarket.So other = readA();
            left = values -> one.test(values) || other.test(values);
        }
        return left;
    }

    private PlainMarket.So readA() throws PlainMarket.Fault {
        PlainMarket.So left = readC();
        while (next("and")) {
            PlainMarket.So one = left;
            PlainMarket.So other = readC();
            left = values -> one.test(values) && other.test(values);
        }
        return left;
    }

    private PlainMarket.So readC() throws PlainMarket.Fault {
        String token = tokens.get(at);
        if (token.equals("not") || token.equals("(")) {
            open++;
            if (open == 9) {
                throw fault(3);
            }
            at++;
            PlainMarket.So inner = token.equals("not") ? readC() : readB();
            if (token.equals("(")) {
                must(")");
            }
            open--;
            return token.equals("not") ? values -> !inner.test(values) : inner;
        }
        PlainMarket.Sum left = readE();
        String sign = oneOf("<", "=", ">");
        PlainMarket.Sum right = readE();
        return values -> {
            int order = Integer.compare(left.applyAsInt(values), right.applyAsInt(values));
            return sign.equals("<") ? order < 0 : sign.equals("=") ? order == 0 : order > 0;
        };
    }

    private PlainMarket.Sum readE() throws PlainMarket.Fault {
        PlainMarket.Sum left = readT();
        while (tokens.get(at).equals("+") || tokens.get(at).equals("-")) {
            boolean plus = oneOf("+", "-").equals("+");
            PlainMarket.Sum one = left;
            PlainMarket.Sum other = readT();
            left = values -> plus ? one.applyAsInt(values) + other.applyAsInt(values)
                    : one.applyAsInt(values) - other.applyAsInt(values);
        }
        return left;
    }

    private PlainMarket.Sum readT() throws PlainMarket.Fault {
        PlainMarket.Sum left = readU();
        while (tokens.get(at).equals("*") || tokens.get(at).equals("/")) {
            PlainMarket.Sum one = left;
            if (oneOf("*", "/").equals("*")) {
                PlainMarket.Sum other = readU();
                left = values -> one.applyAsInt(values) * other.applyAsInt(values);
            } else {
                int by = number(1, 9999);
                left = values -> one.applyAsInt(values) / by;
            }
        }
        return left;
    }

    private PlainMarket.Sum readU() throws PlainMarket.Fault {
        if (isNumber()) {
            int v = number(0, 9999);
            return values -> v;
        }
        String word = tokens.get(at);
        if (!WORDS.contains(word)) {
            throw fault(1);
        }
        at++;
        return values -> values.get(word);
    }

    List<PlainMarket.Line> readLines(int k) throws PlainMarket.Fault {
        List<PlainMarket.Line> lines = new ArrayList<>();
        while (!atEnd()) {
            int start = at;
            must(k == 3 ? "web" : "at");
            if (lines.size() == 16) {
                at = start;
                throw fault(3);
            }
            lines.add(k == 1 ? readPath() : k == 2 ? readSky() : readNear());
            must(";");
        }
        return lines;
    }

    private PlainMarket.Line readPath() throws PlainMarket.Fault {
        List<Integer> numbers = new ArrayList<>();
        numbers.add(number(0, 999));
        must("gatherer");
        numbers.add(number(0, gatherers - 1));
        String deed = oneOf("go", "take", "sell");
        if (deed.equals("go")) {
            numbers.add(number(0, 19));
        } else {
            if (deed.equals("sell")) {
                numbers.add(number(0, mourners - 1));
            }
            numbers.add(number(1, 40));
        }
        return new PlainMarket.Line(List.of("at", "gatherer", deed), numbers);
    }

    private PlainMarket.Line readSky() throws PlainMarket.Fault {
        int minute = number(0, 999);
        String word = oneOf("mist", "sun", "wind", "spin");
        int n = number(0, word.equals("spin") ? webs - 1 : 9);
        return new PlainMarket.Line(List.of("at", word), List.of(minute, n));
    }

    private PlainMarket.Line readNear() throws PlainMarket.Fault {
        int one = number(0, webs - 1);
        must("near");
        int other = number(0, webs - 1);
        if (one == other) {
            at--;
            throw fault(2);
        }
        return new PlainMarket.Line(List.of("web", "near"), List.of(one, other));
    }
}
