import java.lang.reflect.Method;
import java.nio.file.Files;
import java.nio.file.Path;
import java.util.Set;
import java.util.TreeSet;
import java.util.regex.Matcher;
import java.util.regex.Pattern;

/** README.md's calls answer what it says there, and its table has every call of the face. */
public final class ReadmeTest {
    private static final Pattern CALL = Pattern.compile("x\\.(\\w+)\\((.*?)\\); +// (-?\\d+).*");

    public static void main(String[] args) throws Exception {
        Path main = Path.of(args.length > 0 ? args[0] : "src/main/java/SwanSums.java").toAbsolutePath();
        String text = Files.readString(main.resolve("../../../../README.md").normalize());
        calls(text);
        table(text);
        Check.end("ReadmeTest");
    }

    private static void calls(String text) throws Exception {
        SwanSums x = new SwanSums();
        int asked = 0;
        for (String line : text.split("\n")) {
            Matcher call = CALL.matcher(line);
            if (call.matches()) {
                Check.due(line, ask(x, call.group(1), call.group(2).split(", ")), Long.parseLong(call.group(3)));
                asked++;
            }
            Check.holds("a call with its answer: " + line, call.matches() || !line.startsWith("x."));
        }
        Check.holds("there are calls in it", asked > 9);
    }

    private static long ask(SwanSums x, String name, String[] words) throws Exception {
        boolean none = words.length == 1 && words[0].isEmpty();
        Object[] numbers = new Object[none ? 0 : words.length];
        for (int k = 0; k < numbers.length; k++) {
            numbers[k] = words[k].startsWith("'") ? (int) words[k].charAt(1) : Integer.parseInt(words[k]);
        }
        for (Method m : SwanSums.class.getMethods()) {
            if (m.getName().equals(name) && m.getParameterCount() == numbers.length) {
                return ((Number) m.invoke(x, numbers)).longValue();
            }
        }
        throw new IllegalArgumentException("no call " + name);
    }

    private static void table(String text) {
        Set<String> told = new TreeSet<>();
        Matcher call = Pattern.compile("`(\\w+)\\(([\\w, ]*)\\)`").matcher(text);
        while (call.find()) {
            told.add(call.group(1) + " " + (call.group(2).isEmpty() ? 0 : call.group(2).split(", ").length));
        }
        Set<String> face = new TreeSet<>();
        for (Method m : SwanSums.class.getDeclaredMethods()) {
            if (java.lang.reflect.Modifier.isPublic(m.getModifiers())) {
                face.add(m.getName() + " " + m.getParameterCount());
            }
        }
        Check.due("the calls of the table", told.toString(), face.toString());
    }
}
