import java.nio.file.Files;
import java.nio.file.Path;
import java.util.List;

/** What of LANGUAGE.md can be seen in the text of the class; the first argument is the file. */
public final class LanguageTest {
    private static final String[] RULED_OUT = {
        "->", "::", "static {", "try {", "catch (", "finally", "synchronized", "assert ", "record ", "throws Exception",
        "package ", "protected ", "System.exit", "System.out", "System.nano", "System.current", "Random", "Thread",
        "Exact(", ".hashCode(", "@Override", "double", "float", "HashMap", "String.", "Object ", "Scanner",
        "+ \"", "\" +", "\t", "var ", "while (true", "for (;;",
    };
    private static final int MOST_ROWS = 60;

    private LanguageTest() {
    }

    public static void main(String[] args) throws Exception {
        List<String> rows = Files.readAllLines(Path.of(args[0]));
        int start = -1;
        String name = "";
        for (int k = 0; k < rows.size(); k++) {
            String row = rows.get(k);
            String code = row.contains("//") || row.trim().startsWith("*") || row.trim().startsWith("/*") ? "" : row;
            Check.at("line " + (k + 1) + ": " + row);
            for (String word : RULED_OUT) {
                Check.due(false, code.contains(word));
            }
            Check.due(true, row.chars().allMatch(c -> c >= 32 && c < 127));
            if (code.startsWith("import ")) {
                Check.due(true, code.equals("import java.util.ArrayList;") || code.equals("import java.util.List;")
                        || code.equals("import java.util.Arrays;"));
            }
            if (code.contains("static ") && code.contains(" = ")) {
                Check.due(true, code.contains("static final "));
            }
            if (start < 0 && code.matches(" {4,8}[a-zA-Z<>\\[\\] ]+\\(.*") && !code.endsWith(";")) {
                start = k;
                name = row;
            }
            if (start >= 0 && (row.equals("    }") || row.equals("        }")) && indent(row) == indent(name)) {
                Check.at("length of" + name);
                Check.due(true, k - start + 1 <= MOST_ROWS);
                start = -1;
            }
        }
        Check.at("last method");
        Check.due(-1, start);
        Check.end("LanguageTest");
    }

    private static int indent(String row) {
        return row.length() - row.stripLeading().length();
    }
}
