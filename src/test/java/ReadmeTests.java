import java.io.IOException;
import java.lang.reflect.Method;
import java.lang.reflect.Modifier;
import java.nio.file.Files;
import java.nio.file.Path;
import java.util.Set;
import java.util.TreeSet;
import java.util.regex.Matcher;
import java.util.regex.Pattern;

/** The examples of README.md: each call is made as it stands there, and answers what stands behind it. */
public final class ReadmeTests {
    private static final Check CHECK = new Check();
    private static final Pattern CALL = Pattern.compile("m\\.(\\w+)\\(([^)]*)\\); +// (-?\\d+|true|false)\\b.*");
    private static final Pattern TELL = Pattern.compile("tell\\(m, (\\d), \"([^\"]*)\"\\); +// (-?\\d+)\\b.*");

    private DewMarket m = new DewMarket();

    public static void main(String[] args) throws Exception {
        String readme = Files.readString(Path.of("README.md"));
        Matcher blocks = Pattern.compile("(?s)```java\n(.*?)```").matcher(readme);
        int examples = 0;
        while (blocks.find()) {
            if (blocks.group(1).startsWith("static")) {
                helpers(blocks.group(1));
            } else {
                examples++;
                new ReadmeTests().example(blocks.group(1));
            }
        }
        CHECK.eq("examples", examples, 4);
        namesEveryCall(readme);
        CHECK.close("ReadmeTests");
    }

    private void example(String lines) throws ReflectiveOperationException {
        for (String line : lines.split("\n")) {
            Matcher call = CALL.matcher(line);
            Matcher tell = TELL.matcher(line);
            if (call.matches()) {
                CHECK.yes(line, answer(call.group(1), call.group(2)).equals(call.group(3)));
            } else if (tell.matches()) {
                CHECK.eq(line, Check.tell(m, Integer.parseInt(tell.group(1)), tell.group(2)), Integer.parseInt(tell.group(3)));
            } else {
                CHECK.yes("understood: " + line, line.equals("DewMarket m = new DewMarket();"));
            }
        }
    }

    private String answer(String name, String list) throws ReflectiveOperationException {
        String[] words = list.isEmpty() ? new String[0] : list.split(", ");
        for (Method each : DewMarket.class.getMethods()) {
            if (each.getName().equals(name) && each.getParameterCount() == words.length) {
                Object[] values = new Object[words.length];
                for (int i = 0; i < words.length; i++) {
                    boolean whether = each.getParameterTypes()[i] == boolean.class;
                    values[i] = whether ? (Object) Boolean.valueOf(words[i]) : (Object) Integer.valueOf(words[i]);
                }
                return String.valueOf(each.invoke(m, values));
            }
        }
        return "no such call";
    }

    /** The page shows the very helpers with which the tests tell texts. */
    private static void helpers(String block) throws IOException {
        Set<String> used = new TreeSet<>();
        for (String line : Files.readString(Path.of("src/test/java/Check.java")).split("\n")) {
            used.add(line.trim());
        }
        for (String line : block.split("\n")) {
            CHECK.yes("stands in Check.java: " + line, used.contains(line.trim()));
        }
    }

    private static void namesEveryCall(String readme) {
        for (Method each : DewMarket.class.getDeclaredMethods()) {
            if (Modifier.isPublic(each.getModifiers())) {
                boolean named = readme.contains("`" + each.getName() + "()`") || readme.contains("m." + each.getName() + "(");
                CHECK.yes("the page names " + each.getName() + "()", named);
            }
        }
    }
}
