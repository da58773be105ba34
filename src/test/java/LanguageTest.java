import java.io.IOException;
import java.nio.file.Files;
import java.nio.file.Path;
import java.util.List;
import java.util.regex.Matcher;
import java.util.regex.Pattern;

/** What of ../shared/LANGUAGE.md can be read off the source by its lines; run from the root of the project. */
public final class LanguageTest {
    private static final Path SOURCE = Path.of("src/main/java/BoxesWithBeads.java");

    public static void main(String[] args) throws IOException {
        List<String> lines = Files.readAllLines(SOURCE);
        forbidden(lines);
        lengths(lines);
        names(lines);
        Due.close("LanguageTest");
    }

    private static String bare(String line) {
        String told = line.replaceAll("\"(\\\\.|[^\"\\\\])*\"", "\"\"").replaceAll("'(\\\\.|[^'\\\\])'", "''");
        int comment = told.indexOf("//");
        String code = comment >= 0 ? told.substring(0, comment) : told;
        return code.trim().startsWith("*") || code.trim().startsWith("/*") ? "" : code;
    }

    private static void forbidden(List<String> lines) {
        String[] signs = {"->", "::", "@", "\" +", "+ \"", "catch", "finally", "synchronized", "assert", "instanceof",
            "Exact", "System.out", "System.nano", "System.current", "Random", "String.", "Object", "var ", "protected",
            "package ", "while (true)", "for (;;)", "hashCode", "equals("};
        for (int i = 0; i < lines.size(); i++) {
            String code = bare(lines.get(i));
            for (String sign : signs) {
                Due.is("line " + (i + 1) + " has " + sign, code.contains(sign), false);
            }
            Due.is("line " + (i + 1) + " is long", lines.get(i).length() > 120, false);
            for (int j = 0; j < lines.get(i).length(); j++) {
                Due.is("line " + (i + 1) + " has signs of ASCII alone", lines.get(i).charAt(j) < 128, true);
            }
            if (code.startsWith("import ")) {
                Due.is("import " + code, code.equals("import java.util.Arrays;")
                        || code.equals("import java.util.NoSuchElementException;"), true);
            }
        }
    }

    private static void lengths(List<String> lines) {
        Pattern method = Pattern.compile("^( {4}| {8})(?! )(?!.*(=|;|class |return |new )).*\\(.*\\).*\\{$");
        int methods = 0;
        for (int i = 0; i < lines.size(); i++) {
            Matcher m = method.matcher(bare(lines.get(i)));
            if (!m.matches()) {
                continue;
            }
            String end = m.group(1) + "}";
            int j = i;
            while (j < lines.size() && !lines.get(j).equals(end)) {
                j++;
            }
            methods++;
            Due.is("lines of" + lines.get(i) + ": " + (j - i + 1), j - i + 1 <= 60, true);
            String head = lines.get(i);
            long commas = head.chars().filter(c -> c == ',').count();
            Due.is("parameters of" + head, commas <= 6, true);
        }
        Due.is("methods were found", methods > 100, true);
    }

    private static void names(List<String> lines) {
        List<String> face = List.of("sign", "end", "game", "rule", "foe", "side", "likeness", "fresh", "sheet", "pay",
                "seed", "like", "value", "state", "boxes", "shows", "beads", "open", "put", "out", "count", "play", "run",
                "come", "odds", "ways", "knows", "share", "errs", "teach", "few", "keep", "again", "join", "watch", "fits",
                "part", "row");
        Pattern declared = Pattern.compile("^ {4,8}(?:private |public |static |final )*[A-Za-z\\[\\]]+ ([a-zA-Z]+)\\(.*\\{$");
        int found = 0;
        for (String line : lines) {
            Matcher m = declared.matcher(bare(line));
            if (m.matches() && face.contains(m.group(1))) {
                boolean own = line.startsWith("    public ");
                Due.is("a name of the face: " + line, own, true);
                found++;
            } else if (m.matches()) {
                Due.is("another public member: " + line, line.contains("public ") && !line.contains(" BoxesWithBeads("),
                        false);
            }
        }
        Due.is("names of the face", found, face.size());
    }
}
