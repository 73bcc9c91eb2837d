import java.io.IOException;
import java.lang.reflect.Method;
import java.nio.file.DirectoryStream;
import java.nio.file.Files;
import java.nio.file.Path;
import java.util.HashMap;
import java.util.Map;
import java.util.regex.Matcher;
import java.util.regex.Pattern;

/** README.md as the class and the tests stand: its example answers what it tells, and it names each test. */
public final class ReadmeTest {
    private static final Pattern CALL = Pattern.compile("(?:int (\\w+) = )?x\\.(\\w+)\\((.*?)\\);(?: +// (.*))?");

    public static void main(String[] args) throws Exception {
        Checks c = new Checks("ReadmeTest");
        String readme = Files.readString(Path.of("README.md"));
        example(c, readme);
        tests(c, readme);
        c.finish();
    }

    private static void example(Checks c, String readme) throws ReflectiveOperationException {
        String fence = "```";
        int from = readme.indexOf(fence + "java");
        String[] lines = readme.substring(from, readme.indexOf(fence, from + 1)).split("\n");
        c.due("the example's object", lines[1], "LeafFormula x = new LeafFormula();");
        LeafFormula x = new LeafFormula();
        Map<String, Integer> answers = new HashMap<>();
        for (int i = 2; i < lines.length; i++) {
            Matcher call = CALL.matcher(lines[i]);
            c.due("a call: '" + lines[i] + "'", call.matches() ? 1 : 0, 1);
            int got = ask(x, call.group(2), call.group(3), answers);
            if (call.group(1) != null) {
                answers.put(call.group(1), got);
                c.due("the example's " + call.group(1), got, told(call.group(4)));
            }
        }
        c.due("answers that the example tells", answers.size(), 5);
    }

    private static int ask(LeafFormula x, String name, String arguments, Map<String, Integer> answers)
            throws ReflectiveOperationException {
        String[] words = arguments.isEmpty() ? new String[0] : arguments.split(", ");
        Object[] numbers = new Object[words.length];
        for (int i = 0; i < words.length; i++) {
            numbers[i] = answers.containsKey(words[i]) ? answers.get(words[i]) : Integer.decode(words[i]);
        }
        for (Method method : LeafFormula.class.getMethods()) {
            if (method.getName().equals(name) && method.getParameterCount() == numbers.length) {
                return (Integer) method.invoke(x, numbers);
            }
        }
        throw new NoSuchMethodException(name);
    }

    /** The answer with which a comment begins: a number, or a byte as 'l'. */
    private static int told(String comment) {
        return comment.startsWith("'") ? comment.charAt(1) : Integer.parseInt(comment);
    }

    private static void tests(Checks c, String readme) throws IOException {
        try (DirectoryStream<Path> files = Files.newDirectoryStream(Path.of("src/test/java"), "*Test.java")) {
            for (Path file : files) {
                String test = file.getFileName().toString().replace(".java", "");
                c.due("README.md names " + test, readme.contains("`" + test + "`") ? 1 : 0, 1);
            }
        }
    }
}
