import java.lang.reflect.Field;
import java.lang.reflect.Method;
import java.lang.reflect.Modifier;
import java.nio.file.Files;
import java.nio.file.Path;
import java.util.ArrayList;
import java.util.HashMap;
import java.util.List;
import java.util.Map;
import java.util.Set;
import java.util.TreeSet;
import java.util.regex.Matcher;
import java.util.regex.Pattern;

/**
 * The rules of LANGUAGE.md that a text or a class file shows, and the room that calls take.
 * The program's file is the first argument.
 */
public final class RulesTest {
    private static final Set<String> FACE = Set.of(
        "int swans(int)", "int number(int,int)", "int say(int)", "int wipe()", "int fault()", "int judge()", "int done()",
        "int at(int)", "int behind(int)", "int taught(int)", "int read(int,int)", "int longest()", "int plan(int,int)",
        "int week(int,int)", "int sell(int)", "int worn(int,int,int)", "int rivals(int)", "int seen(int,int)",
        "int forget()", "int filled(int)", "long pikes(int,int,int)", "int year(int,int,int)", "int image(int)",
        "int restore(int)", "int told(int)");
    private static final String[] RULED_OUT = {"try", "catch", "throw", "throws", "finally", "synchronized", "assert",
        "double", "float", "instanceof", "native", "volatile", "Object", "Class", "Thread", "Random", "package",
        "equals", "hashCode", "toString", "System", "StringBuilder", "protected"};

    /** The first line of a method, of the class itself or of one inside. */
    private static final String HEAD = " {4,8}(?:public |private |static )*[\\w\\[\\]]+ \\w+\\([^()]*\\) \\{";

    public static void main(String[] args) throws Exception {
        String text = Files.readString(Path.of(args.length > 0 ? args[0] : "src/main/java/SwanSums.java"));
        text(text);
        lengths(text);
        depths(text);
        face();
        classes();
        room();
        Check.end("RulesTest");
    }

    private static void text(String whole) {
        Check.holds("signs 1 to 127 alone", whole.chars().allMatch(c -> c > 0 && c < 128));
        String text = whole.replaceAll("(?s)/\\*.*?\\*/", "").replaceAll("//[^\n]*", "");
        for (String word : RULED_OUT) {
            Check.holds("no " + word, !Pattern.compile("\\b" + word + "\\b").matcher(text).find());
        }
        Check.holds("no lambda", !text.contains("->") && !text.contains("::"));
        Check.holds("no annotation", !text.contains("@"));
        Check.holds("no text joined", !text.contains("\""));
        Matcher imports = Pattern.compile("import ([\\w.]+);").matcher(text);
        while (imports.find()) {
            Check.holds("import " + imports.group(1), imports.group(1).equals("java.util.Arrays"));
        }
        Matcher library = Pattern.compile("\\b(Math|Arrays|Integer|Long)\\.(\\w+)").matcher(text);
        while (library.find()) {
            String call = library.group();
            Check.holds(call, Set.of("Math.max", "Math.min", "Arrays.fill").contains(call));
        }
    }

    private static void lengths(String whole) {
        int from = -1;
        String[] lines = whole.split("\n");
        for (int k = 0; k < lines.length; k++) {
            Check.holds("line " + (k + 1) + " is no longer than 130 signs", lines[k].length() <= 130);
            if (lines[k].matches(HEAD)) {
                from = k;
            } else if (from >= 0 && lines[k].matches(" *\\}") && lines[k].indexOf('}') == lines[from].indexOf(lines[from].trim())) {
                Check.holds("the method at line " + (from + 1) + " is short", k - from < 50);
                from = -1;
            }
        }
    }

    /** Rule 11, by names alone: a name that several methods bear calls what any of them does. */
    private static void depths(String whole) {
        Map<String, Set<String>> calls = new HashMap<>();
        String[] bodies = whole.replaceAll("(?s)/\\*.*?\\*/", "").split("\n(?=" + HEAD + ")");
        for (int k = 1; k < bodies.length; k++) {
            int end = bodies[k].indexOf("{\n");
            Matcher head = Pattern.compile("(\\w+)\\(").matcher(bodies[k]);
            Check.holds("a method has a name: " + bodies[k], head.find() && end > 0);
            Set<String> called = calls.computeIfAbsent(head.group(1), name -> new TreeSet<>());
            Matcher call = Pattern.compile("(\\w+)\\(").matcher(bodies[k].substring(end));
            while (call.find()) {
                called.add(call.group(1));
            }
        }
        Check.holds("methods are found: " + calls.keySet(), calls.size() > 70 && calls.keySet().contains("raise"));
        for (String name : calls.keySet()) {
            int depth = depth(name, calls, new TreeSet<>());
            Check.holds(name + " goes eight calls deep at most: " + depth, depth <= 8);
        }
    }

    /** Recursion is no such depth: a name that stands open already is not counted again. */
    private static int depth(String name, Map<String, Set<String>> calls, Set<String> open) {
        if (!calls.containsKey(name) || !open.add(name)) {
            return 0;
        }
        int deepest = 0;
        for (String next : calls.get(name)) {
            deepest = Math.max(deepest, depth(next, calls, open));
        }
        open.remove(name);
        return deepest + 1;
    }

    private static void face() throws Exception {
        Class<?> c = SwanSums.class;
        Check.holds("public and final", Modifier.isPublic(c.getModifiers()) && Modifier.isFinal(c.getModifiers()));
        Set<String> open = new TreeSet<>();
        for (Method m : c.getDeclaredMethods()) {
            if (!Modifier.isPrivate(m.getModifiers())) {
                Check.holds(m + " is public, of the object", m.getModifiers() == Modifier.PUBLIC);
                List<String> types = new ArrayList<>();
                for (Class<?> type : m.getParameterTypes()) {
                    types.add(type.getName());
                }
                open.add(m.getReturnType().getName() + " " + m.getName() + "(" + String.join(",", types) + ")");
            }
        }
        Check.holds("the face: " + open, open.equals(new TreeSet<>(FACE)));
        Check.holds("one constructor", c.getDeclaredConstructors().length == 1 && c.getConstructors().length == 1);
        Set<String> constants = new TreeSet<>();
        for (Field f : c.getDeclaredFields()) {
            if (!Modifier.isPrivate(f.getModifiers())) {
                Check.holds(f + " is a constant",
                    f.getModifiers() == (Modifier.PUBLIC | Modifier.STATIC | Modifier.FINAL));
                constants.add(f.getName());
            }
        }
        Check.holds("the constants: " + constants,
            constants.equals(Set.of("NONE", "UNKNOWN", "OUTSIDE", "STATE", "FULL", "NO", "LOST")));
    }

    private static void classes() {
        List<Class<?>> all = new ArrayList<>(List.of(SwanSums.class.getDeclaredClasses()));
        all.add(SwanSums.class);
        Check.holds("twelve classes at most", all.size() <= 12);
        Set<String> names = new TreeSet<>();
        for (String call : FACE) {
            names.add(call.replaceAll(".* (\\w+)\\(.*", "$1"));
        }
        for (Class<?> c : all) {
            Check.holds(c + " is static", c == SwanSums.class || Modifier.isStatic(c.getModifiers()));
            int fields = 0;
            for (Field f : c.getDeclaredFields()) {
                fields += Modifier.isStatic(f.getModifiers()) ? 0 : 1;
                Check.holds(f + " is final", !Modifier.isStatic(f.getModifiers()) || Modifier.isFinal(f.getModifiers()));
            }
            Check.holds(c + " has few fields", fields <= 20);
            for (Method m : c.getDeclaredMethods()) {
                Check.holds(m + " has few parameters", m.getParameterCount() <= 7);
                Check.holds(m + " has a name of its own",
                    c == SwanSums.class && Modifier.isPublic(m.getModifiers()) || !names.contains(m.getName()));
            }
        }
    }

    private static long made() {
        return ((com.sun.management.ThreadMXBean) java.lang.management.ManagementFactory.getThreadMXBean())
            .getThreadAllocatedBytes(Thread.currentThread().getId());
    }

    /** The dearest calls: what is made is made once, however often they come. */
    private static void room() {
        made();
        dearCalls(new SwanSums(), 8);
        long before = made();
        SwanSums x = new SwanSums();
        long atFirst = made() - before;
        Check.holds("a new object takes little room: " + atFirst, atFirst < 3000);
        before = made();
        dearCalls(x, 512);
        long all = made() - before;
        Check.holds("512 calls take little room: " + all, all < 400000);
    }

    private static void dearCalls(SwanSums x, int many) {
        long sum = x.swans(7);
        String day = "b?p?rg?rx6b3";
        for (int k = 0; k < day.length(); k++) {
            sum += x.say(day.charAt(k));
        }
        for (int k = day.length() + 1; k < many; k++) {
            switch (k % 10) {
                case 0:
                    sum += x.swans(5 + k / 10 % 3);
                    break;
                case 1:
                    sum += x.week(1616, 4);
                    break;
                case 2:
                    sum += x.filled(-1);
                    break;
                case 3:
                    sum += x.pikes(3, 3, 0);
                    break;
                case 4:
                    sum += x.year(k, 99, 6);
                    break;
                case 5:
                    sum += x.rivals(1);
                    break;
                case 6:
                    sum += x.image(k % 2) + x.restore(k % 2);
                    break;
                case 7:
                    sum += x.worn(2, 5, 0);
                    break;
                default:
                    sum += x.plan(k % 7, k % 5 - 1);
                    break;
            }
        }
        Check.holds("calls were made", sum != Long.MAX_VALUE);
    }
}
