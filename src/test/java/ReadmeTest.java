import java.io.IOException;
import java.lang.reflect.InvocationTargetException;
import java.lang.reflect.Method;
import java.nio.file.Files;
import java.nio.file.Path;
import java.util.ArrayList;
import java.util.List;
import java.util.TreeSet;
import java.util.regex.Matcher;
import java.util.regex.Pattern;

/** Asks what README.md's examples ask, and hands over the texts that it shows; run from the root of the project. */
public final class ReadmeTest {
    private static final Pattern CALL = Pattern.compile("x\\.([a-z]+)\\((.*)\\); *// (.*)");
    private static final Pattern TOLD =
            Pattern.compile("(true|false|-?[0-9]+|throws [A-Za-z]+)(?:, ROW((?: -?[0-9]+)*))?(?:: .*)?");
    private static final Pattern PART = Pattern.compile("\\(?'(.)'(?: << ([0-9]+)\\))?");

    private static final Pattern SHOWN = Pattern.compile("\\| (`.*`) \\| (GAME|RULE|FOE): .*");

    private static final TreeSet<String> asked = new TreeSet<>();
    private static int textsShown;
    private static BoxesWithBeads x;

    public static void main(String[] args) throws IOException, IllegalAccessException {
        boolean inJava = false;
        for (String line : Files.readAllLines(Path.of("README.md"))) {
            if (line.startsWith("```")) {
                inJava = line.equals("```java");
            } else if (inJava && line.equals("BoxesWithBeads x = new BoxesWithBeads();")) {
                x = new BoxesWithBeads();
            } else if (inJava) {
                ask(line);
            }
            Matcher shown = SHOWN.matcher(line);
            if (shown.matches()) {
                handOver(shown.group(1), shown.group(2));
            }
        }
        Due.is("README.md shows texts", textsShown, 10);
        for (Method call : BoxesWithBeads.class.getDeclaredMethods()) {
            if (call.toString().startsWith("public ")) {
                Due.is("README.md has an example of " + call.getName(), asked.contains(call.getName()), true);
            }
        }
        Due.close("ReadmeTest");
    }

    private static void ask(String line) throws IllegalAccessException {
        Matcher call = CALL.matcher(line);
        Matcher told = TOLD.matcher(call.matches() ? call.group(3) : "");
        Due.is("README.md: a call with its answer: " + line, call.matches() && told.matches() && x != null, true);
        if (!call.matches() || !told.matches() || x == null) {
            return;
        }
        asked.add(call.group(1));
        String answer = answer(call.group(1), call.group(2));
        Due.is("README.md: " + line + " (it is " + answer + ")", answer.equals(told.group(1)), true);
        if (told.group(2) != null) {
            List<Long> row = new ArrayList<>();
            for (String n : told.group(2).trim().split(" ")) {
                row.add(Long.parseLong(n));
            }
            Due.same("README.md: " + line + ": the row", Due.rowOf(x), row);
        }
    }

    private static String answer(String name, String told) throws IllegalAccessException {
        for (Method m : BoxesWithBeads.class.getDeclaredMethods()) {
            if (m.getName().equals(name)) {
                try {
                    return String.valueOf(m.invoke(x, arguments(told)));
                } catch (InvocationTargetException e) {
                    return "throws " + e.getCause().getClass().getSimpleName();
                }
            }
        }
        return "no such call";
    }

    private static Object[] arguments(String told) {
        if (told.isEmpty()) {
            return new Object[0];
        }
        if (told.contains("'")) {
            return new Object[] {foursome(told)};
        }
        String[] parts = told.split(", ");
        Object[] all = new Object[parts.length];
        for (int i = 0; i < parts.length; i++) {
            boolean isNumber = !parts[i].equals("true") && !parts[i].equals("false");
            all[i] = isNumber ? (Object) Integer.valueOf(parts[i]) : Boolean.valueOf(parts[i]);
        }
        return all;
    }

    private static int foursome(String told) {
        int v = 0;
        for (String each : told.split(" \\| ")) {
            Matcher part = PART.matcher(each);
            Due.is("README.md: signs: " + each, part.matches(), true);
            if (part.matches()) {
                int by = part.group(2) == null ? 0 : Integer.parseInt(part.group(2));
                v |= part.group(1).charAt(0) << by;
            }
        }
        return v;
    }

    private static void handOver(String texts, String kind) {
        for (String each : texts.split(", ")) {
            String text = each.substring(1, each.length() - 1);
            BoxesWithBeads fresh = new BoxesWithBeads();
            Due.text(fresh, text);
            int answer = kind.equals("GAME") ? fresh.game() : kind.equals("RULE") ? fresh.rule() : fresh.foe();
            Due.is("README.md: the " + kind + " " + text, answer, 0);
            textsShown++;
        }
    }
}
