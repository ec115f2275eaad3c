import java.io.IOException;
import java.lang.reflect.Method;
import java.nio.file.Files;
import java.nio.file.Path;
import java.util.regex.Matcher;
import java.util.regex.Pattern;

/** Makes the calls that README.md shows, in their order on one object, and holds each answer against its remark. */
public final class ReadmeTest {
    private static final Pattern SHOWN = Pattern.compile("rows\\.(\\w+)\\((.*)\\); *// (-?\\d+|true|false)\\b.*");

    private static final Check check = new Check();

    public static void main(String[] args) throws IOException, ReflectiveOperationException {
        String readme = Files.readString(Path.of("README.md"));
        RootRows rows = new RootRows();
        int shown = 0;
        for (String line : readme.split("\n")) {
            if (line.startsWith("rows.")) {
                Matcher call = SHOWN.matcher(line);
                check.due("an answer stands beside " + line, call.matches(), true);
                shown++;
                check.due(line, number(answer(rows, call.group(1), call.group(2))), number(call.group(3)));
            }
        }
        check.due("calls are shown", shown > 10, true);
        for (Method method : RootRows.class.getMethods()) {
            if (method.getDeclaringClass() == RootRows.class) {
                check.due("README.md tells of " + method, readme.contains("| `" + method.getName() + "("), true);
            }
        }
        check.finish("ReadmeTest");
    }

    private static String answer(RootRows rows, String name, String given) throws ReflectiveOperationException {
        String[] words = given.isEmpty() ? new String[0] : given.split(", ");
        Class<?>[] types = new Class<?>[words.length];
        Object[] values = new Object[words.length];
        for (int k = 0; k < words.length; k++) {
            types[k] = int.class;
            values[k] = Integer.decode(words[k]);
        }
        return String.valueOf(RootRows.class.getMethod(name, types).invoke(rows, values));
    }

    private static long number(String answer) {
        return answer.equals("true") ? 1 : answer.equals("false") ? 0 : Long.parseLong(answer);
    }
}
