import java.lang.reflect.Modifier;
import java.nio.file.Files;
import java.nio.file.Path;
import java.util.Arrays;
import java.util.TreeSet;
import java.util.regex.Matcher;
import java.util.regex.Pattern;

/** The public face of the document, no more and no less, and what can be told of LANGUAGE.md from the text alone. */
public final class FaceTest {
    private static final String[] METHODS = {
        "feed/5", "end/1", "book/0", "change/1", "copy/1", "find/1", "place/0", "fault/0", "count/1", "gatherings/1",
        "gathering/3", "leaves/1", "leaf/3", "letter/2", "name/3", "same/2", "sheets/2", "sheet/4", "forme/4", "state/2",
        "entry/2", "told/3", "note/2", "apart/2", "together/2", "status/0"
    };

    public static void main(String[] args) throws Exception {
        Checks c = new Checks("FaceTest");
        methods(c);
        members(c);
        language(c);
        c.finish();
    }

    private static void methods(Checks c) {
        TreeSet<String> due = new TreeSet<>(Arrays.asList(METHODS));
        TreeSet<String> got = new TreeSet<>();
        for (var method : LeafFormula.class.getDeclaredMethods()) {
            boolean open = !Modifier.isPrivate(method.getModifiers());
            if (open) {
                got.add(method.getName() + "/" + method.getParameterCount());
                c.due(method.getName() + " is public and no more", method.getModifiers(), Modifier.PUBLIC);
                c.due(method.getName() + " answers", method.getReturnType().getName(), "int");
                for (Class<?> type : method.getParameterTypes()) {
                    c.due(method.getName() + " is handed", type.getName(), "int");
                }
            } else {
                c.due(method.getName() + " is a public name", namesOf(due).contains(method.getName()) ? 1 : 0, 0);
            }
        }
        for (Class<?> inside : LeafFormula.class.getDeclaredClasses()) {
            for (var method : inside.getDeclaredMethods()) {
                c.due(inside.getName() + "." + method.getName() + " is a public name",
                    namesOf(due).contains(method.getName()) ? 1 : 0, 0);
            }
        }
        c.due("methods", got.toString(), due.toString());
    }

    private static TreeSet<String> namesOf(TreeSet<String> methods) {
        TreeSet<String> names = new TreeSet<>();
        for (String method : methods) {
            names.add(method.substring(0, method.indexOf('/')));
        }
        return names;
    }

    private static void members(Checks c) throws Exception {
        c.due("the class", LeafFormula.class.getModifiers(), Modifier.PUBLIC | Modifier.FINAL);
        c.due("constructors", LeafFormula.class.getDeclaredConstructors().length, 1);
        c.due("its constructor", LeafFormula.class.getDeclaredConstructor().getModifiers(), Modifier.PUBLIC);
        int open = 0;
        for (var field : LeafFormula.class.getDeclaredFields()) {
            open += Modifier.isPrivate(field.getModifiers()) ? 0 : 1;
            c.due(field.getName() + " is static and not final",
                (field.getModifiers() & (Modifier.STATIC | Modifier.FINAL)) == Modifier.STATIC ? 1 : 0, 0);
        }
        c.due("fields that are not private", open, 1);
        c.due("BAD", LeafFormula.class.getDeclaredField("BAD").getModifiers(),
            Modifier.PUBLIC | Modifier.STATIC | Modifier.FINAL);
        c.due("classes, with those inside, some twelve", LeafFormula.class.getDeclaredClasses().length < 13 ? 1 : 0, 1);
        for (Class<?> inside : LeafFormula.class.getDeclaredClasses()) {
            c.due(inside.getName(), inside.getModifiers() & Modifier.STATIC, Modifier.STATIC);
            c.due(inside.getName() + " is not public", inside.getModifiers() & (Modifier.PUBLIC | Modifier.PROTECTED), 0);
        }
    }

    private static void language(Checks c) throws Exception {
        String text = Files.readString(Path.of("src/main/java/LeafFormula.java"));
        c.due("signs beyond 126", (int) text.chars().filter(b -> b > 126).count(), 0);
        String code = text.replaceAll("(?s)/\\*.*?\\*/", "").replaceAll("//[^\n]*", "");
        for (String word : new String[] {"throw", "throws", "try", "catch", "finally", "synchronized", "assert", "package",
            "record", "enum", "->", "::", "hashCode", "toString\\(\\) \\{", "instanceof", "Exact"}) {
            Matcher m = Pattern.compile("\\w".equals(word) || word.matches("\\w+") ? "\\b" + word + "\\b" : word).matcher(code);
            c.due("'" + word + "' in the code", m.find() ? 1 : 0, 0);
        }
        c.due("imports", code.replaceAll("(?s)[^\n]*\\bclass\\b.*", "").strip(), "import java.util.Arrays;");
        methodLengths(c, text.split("\n"));
    }

    private static void methodLengths(Checks c, String[] lines) {
        int longest = 0;
        for (int i = 0; i < lines.length; i++) {
            String line = lines[i];
            String margin = line.substring(0, line.length() - line.stripLeading().length());
            if (!line.endsWith("{") || !line.contains("(") || margin.length() > 8) {
                continue;
            }
            int end = i;
            while (!lines[end].equals(margin + "}")) {
                end++;
            }
            longest = Math.max(longest, end - i);
        }
        c.due("a method of over sixty lines", longest > 60 ? longest : 0, 0);
    }
}
