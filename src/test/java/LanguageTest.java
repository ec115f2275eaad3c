import java.io.IOException;
import java.io.PrintWriter;
import java.io.StringWriter;
import java.lang.reflect.Constructor;
import java.lang.reflect.Field;
import java.lang.reflect.Method;
import java.lang.reflect.Modifier;
import java.net.URISyntaxException;
import java.nio.file.Files;
import java.nio.file.Path;
import java.util.ArrayList;
import java.util.HashMap;
import java.util.HashSet;
import java.util.List;
import java.util.Map;
import java.util.Set;
import java.util.TreeSet;
import java.util.regex.Matcher;
import java.util.regex.Pattern;
import java.util.spi.ToolProvider;
import java.util.stream.Stream;

/** The rules of LANGUAGE.md that can be told from the source and the compiled class. */
public final class LanguageTest {
    private static final Check check = new Check();

    private static final String[] FACE = {
        "public RootRows()",
        "public boolean RootRows.end(int)",
        "public boolean RootRows.join(int,int,int,int,int)",
        "public boolean RootRows.operate(int,int,int,int)",
        "public boolean RootRows.put(int,int,int)",
        "public boolean RootRows.read(int)",
        "public boolean RootRows.times(int,int,int)",
        "public int RootRows.between(int,int,int)",
        "public int RootRows.chain(int,int)",
        "public int RootRows.count(int,int)",
        "public int RootRows.fails(int)",
        "public int RootRows.fault()",
        "public int RootRows.feed(int,int,int,int,int)",
        "public int RootRows.laced(int,int)",
        "public int RootRows.member(int,int,int)",
        "public int RootRows.often(int,int)",
        "public int RootRows.row(int,int)",
        "public int RootRows.sign(int,int,int)",
        "public long RootRows.mean(int,boolean)",
        "public long RootRows.number(int,int)",
        "public long RootRows.root(int,int,int)",
        "public static final int RootRows.NONE",
        "public static final long RootRows.NO_NUMBER",
    };

    public static void main(String[] args) throws IOException, URISyntaxException {
        face();
        for (Class<?> one : RootRows.class.getDeclaredClasses()) {
            inside(one);
        }
        check.due("classes inside, at most 12", RootRows.class.getDeclaredClasses().length <= 12, true);
        String source = Files.readString(Path.of("src/main/java/RootRows.java"));
        words(source);
        lengths(source);
        depths();
        check.finish("LanguageTest");
    }

    private static void face() {
        Set<String> due = new TreeSet<>(List.of(FACE));
        Set<String> got = new TreeSet<>();
        Set<String> names = new HashSet<>();
        for (Method method : RootRows.class.getDeclaredMethods()) {
            note(got, method.getModifiers(), method.toString());
            if (Modifier.isPublic(method.getModifiers())) {
                names.add(method.getName());
            }
        }
        for (Field field : RootRows.class.getDeclaredFields()) {
            note(got, field.getModifiers(), field.toString());
        }
        for (Constructor<?> constructor : RootRows.class.getDeclaredConstructors()) {
            note(got, constructor.getModifiers(), constructor.toString());
        }
        check.due("the face is the document's: " + got, got.equals(due), true);
        check.due("the class is final", Modifier.isFinal(RootRows.class.getModifiers()), true);
        for (Method method : RootRows.class.getDeclaredMethods()) {
            boolean hidden = !Modifier.isPublic(method.getModifiers()) && names.contains(method.getName());
            check.due("a private method named as a public one: " + method, hidden, false);
        }
        for (Class<?> one : RootRows.class.getDeclaredClasses()) {
            for (Method method : one.getDeclaredMethods()) {
                check.due("named as a public one: " + method, names.contains(method.getName()), false);
            }
        }
        size(RootRows.class);
    }

    private static void note(Set<String> got, int modifiers, String member) {
        if (!Modifier.isPrivate(modifiers)) {
            got.add(member);
        }
    }

    private static void inside(Class<?> one) {
        check.due(one + " is static", Modifier.isStatic(one.getModifiers()), true);
        check.due(one + " is not public", Modifier.isPublic(one.getModifiers()), false);
        check.due(one + " has no class inside", one.getDeclaredClasses().length, 0);
        size(one);
    }

    private static void size(Class<?> one) {
        int fields = 0;
        for (Field field : one.getDeclaredFields()) {
            if (!Modifier.isStatic(field.getModifiers())) {
                fields++;
            } else {
                check.due(field + " is final", Modifier.isFinal(field.getModifiers()), true);
            }
        }
        check.due(one + " has at most 20 fields", fields <= 20, true);
        for (Method method : one.getDeclaredMethods()) {
            check.due(method + " takes at most 7", method.getParameterCount() <= 7, true);
        }
    }

    private static void words(String source) {
        String bare = source.replaceAll("(?s)/\\*.*?\\*/", " ").replaceAll("//[^\n]*", " ")
                .replaceAll("'(\\\\.|[^'\\\\])'", "0");
        String[] refused = {"\\bthrows?\\b", "\\btry\\b", "\\bcatch\\b", "\\bassert\\b", "\\bsynchronized\\b",
            "\\bimport\\b", "\\bpackage\\b", "->", "::", "Exact\\b", "\"", "\\bdouble\\b", "\\bfloat\\b",
            "\\bprotected\\b", "\\bnative\\b", "\\bvolatile\\b", "static \\{", "Exception", "Thread", "Random",
            "System\\.(?!arraycopy)", "\\bhashCode\\b", "\\bequals\\b", "\\btoString\\b", "\\bObject\\b", "\\bvar\\b"};
        for (String word : refused) {
            Matcher found = Pattern.compile(word).matcher(bare);
            check.due("the source has " + word, found.find(), false);
        }
        Matcher made = Pattern.compile("\\bnew (\\w+)").matcher(bare);
        while (made.find()) {
            check.due("makes " + made.group(1), made.group(1).matches("[A-Z]\\w+|long|int|boolean"), true);
        }
    }

    /** A method's head ends with { , and its last line is } at the same depth. */
    private static void lengths(String source) {
        String[] lines = source.split("\n");
        for (int from = 0; from < lines.length; from++) {
            Matcher head = Pattern.compile("^( {4}| {8})(\\w.*)\\) \\{$").matcher(lines[from]);
            if (!head.find()) {
                continue;
            }
            int to = from;
            while (!lines[to].equals(head.group(1) + "}")) {
                to++;
            }
            check.due("at most 60 lines: " + lines[from].trim(), to - from + 1 <= 60, true);
        }
    }

    /** Calls that stand open at once, the library's with them: at most eight, and none that comes back to itself. */
    private static void depths() throws IOException, URISyntaxException {
        ToolProvider javap = ToolProvider.findFirst("javap").orElse(null);
        if (javap == null) {
            System.out.println("LanguageTest: no javap here, the depth of calls was not looked at");
            return;
        }
        Map<String, Set<String>> calls = new HashMap<>();
        Path classes = Path.of(RootRows.class.getProtectionDomain().getCodeSource().getLocation().toURI());
        List<Path> files = new ArrayList<>();
        try (Stream<Path> all = Files.list(classes)) {
            all.filter(p -> p.getFileName().toString().matches("RootRows(\\$\\w+)?\\.class")).forEach(files::add);
        }
        for (Path file : files) {
            StringWriter text = new StringWriter();
            javap.run(new PrintWriter(text), new PrintWriter(text), "-c", "-p", file.toString());
            collect(file.getFileName().toString().replace(".class", ""), text.toString(), calls);
        }
        check.due("the calls were found", calls.size() > 50, true);
        for (String method : calls.keySet()) {
            int deep = depth(method, calls, 0);
            check.due(method + " goes at most eight deep", deep <= 8, true);
        }
    }

    private static void collect(String name, String text, Map<String, Set<String>> calls) {
        Pattern head = Pattern.compile("^  \\S.*?(\\S+)\\(.*\\);$");
        Pattern call = Pattern.compile("invoke\\w+ +#\\d+.*// (?:Interface)?Method (\\S+?):");
        String current = "";
        for (String line : text.split("\n")) {
            Matcher start = head.matcher(line);
            if (start.find()) {
                String method = start.group(1);
                boolean constructor = method.replace('.', '$').equals(name);
                current = name + "." + (constructor ? "<init>" : method);
                calls.putIfAbsent(current, new HashSet<>());
                continue;
            }
            Matcher inner = call.matcher(line);
            if (inner.find() && !current.isEmpty()) {
                String target = inner.group(1).replace("\"", "");
                calls.get(current).add(target.contains(".") ? target : name + "." + target);
            }
        }
    }

    private static int depth(String method, Map<String, Set<String>> calls, int above) {
        if (above > 20) {
            return 1;
        }
        int deepest = 0;
        for (String next : calls.getOrDefault(method, Set.of())) {
            deepest = Math.max(deepest, depth(next, calls, above + 1));
        }
        return deepest + 1;
    }
}
