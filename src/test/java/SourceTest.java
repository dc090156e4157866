import java.nio.file.Files;
import java.nio.file.Path;
import java.util.ArrayList;
import java.util.List;
import java.util.regex.Pattern;

/** Rules of LANGUAGE.md (1, 2, 4, 5, 6, 10, 11, 12, 13) as far as the source's own lines show them. */
public final class SourceTest {
    private static final int MOST_LINES = 60;
    private static final String[] NEVER = {
        "\\b(try|catch|finally|synchronized|assert|instanceof|protected)\\b",
        "->|::",
        "\"\\s*\\+|\\+\\s*\"",
        "\\bSystem\\.(?!arraycopy)|\\b(Thread|Random|Object|String\\.format)\\b|Exact\\(",
        "\\bstatic\\s*\\{",
        "[^\\x20-\\x7e]",
    };
    private static final Pattern MADE_IN_A_FIELD = Pattern.compile(" +(private |static |final )+.*= new .*;");
    private static final Pattern THROWN = Pattern.compile(" +throw new NoSuchElementException\\(\"[a-z ]*\"\\);");

    private static final List<String> FAULTS = new ArrayList<>();

    public static void main(String[] args) throws Exception {
        List<String> lines = Files.readAllLines(Path.of(args.length > 0 ? args[0] : "src/main/java/BargesByBreath.java"));
        for (int i = 0; i < lines.size(); i++) {
            String code = lines.get(i).replaceAll("//.*|^ *(/\\*)?\\*( .*|/)", "");
            look(i + 1, code);
        }
        for (String indent : new String[] {"    ", "        "}) {
            lengths(lines, indent);
        }
        FAULTS.forEach(System.out::println);
        System.out.println(FAULTS.isEmpty() ? "the source is as due" : "the source is not as due");
        if (!FAULTS.isEmpty()) {
            System.exit(1);
        }
    }

    private static void look(int number, String code) {
        for (String never : NEVER) {
            if (Pattern.compile(never).matcher(code).find()) {
                FAULTS.add("line " + number + " has what it may not: " + code);
            }
        }
        if (code.startsWith("import") && !code.equals("import java.util.NoSuchElementException;")) {
            FAULTS.add("line " + number + " takes more of the library: " + code);
        }
        boolean thrown = code.contains("throw ");
        if (thrown && !THROWN.matcher(code).matches()) {
            FAULTS.add("line " + number + " throws something else: " + code);
        }
        // no call makes an object: what is made is made once, with the object itself
        if (code.contains("new ") && !thrown && !MADE_IN_A_FIELD.matcher(code).matches()) {
            FAULTS.add("line " + number + " makes an object in a call: " + code);
        }
    }

    /** Blocks that stand so far in, but for classes, which are longer. */
    private static void lengths(List<String> lines, String indent) {
        int head = 0;
        for (int i = 0; i < lines.size(); i++) {
            String line = lines.get(i);
            if (line.startsWith(indent) && !line.startsWith(indent + " ") && line.endsWith("{")) {
                head = i;
            }
            if (line.equals(indent + "}") && i - head >= MOST_LINES && !lines.get(head).contains(" class ")) {
                FAULTS.add("line " + (head + 1) + ": more than " + MOST_LINES + " lines");
            }
        }
    }
}
