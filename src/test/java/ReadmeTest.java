import java.io.File;
import java.lang.reflect.Method;
import java.lang.reflect.Modifier;
import java.nio.file.Files;
import java.nio.file.Path;
import java.util.regex.Matcher;
import java.util.regex.Pattern;

/** README.md: its example answers as it says, and it leaves out no method, no answer and no test. */
final class ReadmeTest {
    private static final Check CHECK = new Check("ReadmeTest");
    private static final Pattern TAPE = Pattern.compile("\"(.*)\"\\.toCharArray\\(\\)");
    private static final Pattern LINE = Pattern.compile("x\\.(\\w+)\\(([-\\d, ]*)\\);\\s*// (-?\\d+)\\b.*");
    private static final String[] ANSWERS = {"NONE", "BAD", "STATE", "FULL", "NOT", "NO_ITEM", "NO", "-11", "-12",
        "-14", "-100", "-300"};

    public static void main(String[] args) throws Exception {
        String text = Files.readString(Path.of("README.md"));
        example(text.substring(text.indexOf("```java"), text.lastIndexOf("```")));
        for (Method method : FindOrder.class.getDeclaredMethods()) {
            if (Modifier.isPublic(method.getModifiers())) {
                told(text, "`" + method.getName() + "`");
            }
        }
        for (String answer : ANSWERS) {
            told(text, answer);
        }
        for (String file : new File("src/test/java").list()) {
            if (file.endsWith("Test.java")) {
                told(text, "`" + file.replace(".java", "") + "`");
            }
        }
        told(text, "bash .ci/run");
        CHECK.end();
    }

    private static void told(String text, String what) {
        CHECK.due("README.md tells " + what, text.contains(what) ? 1 : 0, 1);
    }

    /** Each line that says its answer is asked of one object, one by one. */
    private static void example(String text) throws Exception {
        FindOrder x = new FindOrder();
        Matcher tape = TAPE.matcher(text);
        CHECK.due("README.md feeds a text", tape.find() ? 1 : 0, 1);
        for (char letter : tape.group(1).toCharArray()) {
            x.feed(letter);
        }
        int asked = 0;
        for (String line : text.split("\n")) {
            Matcher matcher = LINE.matcher(line);
            if (matcher.matches()) {
                asked++;
                long due = Long.parseLong(matcher.group(3));
                CHECK.due("README.md: " + line, call(x, matcher.group(1), matcher.group(2)), due);
            } else {
                boolean isQuiet = !line.contains("//");
                CHECK.due("README.md says no answer in " + line, isQuiet ? 1 : 0, 1);
            }
        }
        CHECK.due("README.md has an example", asked > 0 ? 1 : 0, 1);
    }

    private static long call(FindOrder x, String name, String list) throws Exception {
        String[] words = list.isEmpty() ? new String[0] : list.split(", ");
        Class<?>[] types = new Class<?>[words.length];
        Object[] values = new Object[words.length];
        for (int i = 0; i < words.length; i++) {
            types[i] = int.class;
            values[i] = Integer.valueOf(words[i]);
        }
        return ((Number) FindOrder.class.getMethod(name, types).invoke(x, values)).longValue();
    }
}
