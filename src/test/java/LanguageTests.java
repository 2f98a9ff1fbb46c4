import java.io.IOException;
import java.lang.reflect.Field;
import java.lang.reflect.Member;
import java.lang.reflect.Method;
import java.lang.reflect.Modifier;
import java.nio.file.Files;
import java.nio.file.Path;
import java.util.ArrayList;
import java.util.List;
import java.util.Set;
import java.util.TreeSet;
import java.util.regex.Matcher;
import java.util.regex.Pattern;

/** The rules of LANGUAGE.md that can be seen in the source or in the compiled class. */
public final class LanguageTests {
    private static final Check CHECK = new Check();
    private static final String FACE = "public static final int NONE|public DewMarket()|int state(int)|int web(int,int)"
            + "|int gatherer(int)|int mourner(int,int,int)|boolean set(int,int,int)|boolean act(int,int,int)|int minutes(int)"
            + "|int feed(int,int,int,int,int)|boolean end(int)|int text(int)|int fault(int)|int of(int,int)|int who(int,int)"
            + "|int weeper(int,int)|int book(int,int)|int goes(int,int)|int weeps(int)|int claims(int)|int thread(int,int)"
            + "|int hangs()|boolean cell(int,int)|int determinant()|int mark(int,int)|int marks(int,int)|int chord(int,int)"
            + "|int chords(int)|int stop(int,int)|int round(int)|int ones(int,int)|int digit(int)|int order(int)|int sign(int)"
            + "|int stack(int)|int strung(int,int)|int run(int)|int runs(int)|boolean hole(int,int,boolean)|int leaks(int)"
            + "|int colours(int,int,int)|int game(int,int,int)|boolean undo()|boolean image(boolean)|int look(int)";

    public static void main(String[] args) throws IOException {
        String source = Files.readString(Path.of("src/main/java/DewMarket.java"));
        String code = withoutCommentsAndTexts(source);
        face();
        classes();
        forbiddenWords(code);
        library(code);
        methodLengths(code);
        recursions(code);
        newOnlyAtTheStart(code);
        CHECK.eq("signs beyond 127", source.chars().filter(c -> c > 127).count(), 0);
        CHECK.eq("imports", count(code, "\\bimport\\b"), 0);
        CHECK.eq("package", count(code, "\\bpackage\\b"), 0);
        CHECK.close("LanguageTests");
    }

    private static String withoutCommentsAndTexts(String source) {
        String code = source.replaceAll("(?s)/\\*.*?\\*/", "").replaceAll("//[^\n]*", "");
        return code.replaceAll("\"[^\"\n]*\"", "\"\"").replaceAll("'.'", "' '");
    }

    private static int count(String code, String pattern) {
        Matcher m = Pattern.compile(pattern).matcher(code);
        int found = 0;
        while (m.find()) {
            found++;
            System.out.println("found: " + m.group());
        }
        return found;
    }

    private static void face() {
        Set<String> due = new TreeSet<>();
        for (String each : FACE.split("\\|")) {
            due.add(each.startsWith("public") ? each : "public " + each);
        }
        Set<String> got = new TreeSet<>();
        List<Member> members = new ArrayList<>(List.of(DewMarket.class.getDeclaredMethods()));
        members.addAll(List.of(DewMarket.class.getDeclaredFields()));
        members.addAll(List.of(DewMarket.class.getDeclaredConstructors()));
        for (Member each : members) {
            if (!Modifier.isPrivate(each.getModifiers())) {
                got.add(each.toString().replace("DewMarket.", ""));
            }
        }
        CHECK.yes("the face: " + got, got.equals(due));
        CHECK.yes("public and final", Modifier.isPublic(DewMarket.class.getModifiers())
                && Modifier.isFinal(DewMarket.class.getModifiers()));
    }

    private static void classes() {
        Set<String> publicNames = new TreeSet<>();
        for (Method each : DewMarket.class.getMethods()) {
            publicNames.add(each.getName());
        }
        List<Class<?>> all = new ArrayList<>(List.of(DewMarket.class.getDeclaredClasses()));
        CHECK.yes("at most twelve classes", all.size() < 12);
        for (Class<?> each : all) {
            CHECK.yes(each + " is static", Modifier.isStatic(each.getModifiers()));
            CHECK.no(each + " is public", Modifier.isPublic(each.getModifiers()) || Modifier.isProtected(each.getModifiers()));
        }
        all.add(DewMarket.class);
        for (Class<?> each : all) {
            int fields = 0;
            for (Field field : each.getDeclaredFields()) {
                boolean still = Modifier.isStatic(field.getModifiers());
                fields += still ? 0 : 1;
                CHECK.yes(field + " is final", !still || Modifier.isFinal(field.getModifiers()));
            }
            CHECK.yes(each + " has some twenty fields", fields <= 20);
            for (Method method : each.getDeclaredMethods()) {
                CHECK.yes(method + " has seven parameters at most", method.getParameterCount() <= 7);
                if (!Modifier.isPublic(method.getModifiers())) {
                    CHECK.no(method + " bears a public one's name", publicNames.contains(method.getName()));
                }
            }
        }
    }

    private static void forbiddenWords(String code) {
        String[] words = {
            "throw", "throws", "try", "catch", "finally", "synchronized", "assert", "volatile", "transient", "native", "var",
            "hashCode", "toString", "protected", "Object", "Thread", "Random", "yield", "record", "sealed"
        };
        for (String word : words) {
            CHECK.eq(word, count(code, "\\b" + word + "\\b"), 0);
        }
        CHECK.eq("lambdas and references", count(code, "->|::"), 0);
        CHECK.eq("static blocks", count(code, "static\\s*\\{"), 0);
        CHECK.eq("joined texts", count(code, "\"\\s*\\+|\\+\\s*\""), 0);
        CHECK.eq("Exact", count(code, "\\w+Exact\\b"), 0);
    }

    private static void library(String code) {
        Set<String> may = Set.of("Math.max", "Math.min", "Math.abs", "Integer.bitCount", "Integer.compare",
                "Math.floorMod", "System.arraycopy");
        Matcher m = Pattern.compile("\\b(Math|Integer|Long|System|Arrays|Character|String)\\.\\w+").matcher(code);
        while (m.find()) {
            CHECK.yes(m.group() + " stands in the list", may.contains(m.group()));
        }
    }

    /** A method begins at a line that ends with ") {" two or one steps in, and ends at the brace below it. */
    private static void methodLengths(String code) {
        String[] lines = code.split("\n");
        for (int i = 0; i < lines.length; i++) {
            Matcher m = Pattern.compile("( {4}| {8})\\w[^=]*\\) \\{").matcher(lines[i]);
            if (m.matches()) {
                int end = i;
                while (end < lines.length && !lines[end].equals(m.group(1) + "}")) {
                    end++;
                }
                CHECK.yes(lines[i].trim() + " is short", end - i <= 50);
            }
        }
    }

    /** Rule 8: a method that calls itself is private and static. */
    private static void recursions(String code) {
        Matcher m = Pattern.compile("(?m)^( {4}| {8})((?:private |static |public )*)[\\w\\[\\]]+ (\\w+)\\([^)]*\\) \\{$").matcher(code);
        int methods = 0;
        while (m.find()) {
            methods++;
            int end = code.indexOf("\n" + m.group(1) + "}\n", m.end());
            String body = code.substring(m.end(), Math.max(m.end(), end));
            boolean calls = Pattern.compile("(?<![.\\w])" + m.group(3) + "\\(").matcher(body).find();
            CHECK.no(m.group(3) + " calls itself and is not private and static", calls && !m.group(2).equals("private static "));
        }
        CHECK.yes("methods were found: " + methods, methods > 150);
    }

    /** What a run keeps is made with the object: new stands in fields and in the one constructor with a loop alone. */
    private static void newOnlyAtTheStart(String code) {
        for (String line : code.split("\n")) {
            if (line.matches(".*\\bnew\\b.*")) {
                boolean field = line.matches(" {4,8}(private )?final \\S+ \\w+ = new .*;");
                boolean constructor = line.trim().equals("hedges[i] = new Hedge();")
                        || line.trim().equals("this.cells = new int[this.limit * this.width];");
                CHECK.yes("made at the start: " + line.trim(), field || constructor);
            }
        }
    }
}
