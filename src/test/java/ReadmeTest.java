import java.io.File;
import java.io.IOException;
import java.lang.reflect.InvocationTargetException;
import java.lang.reflect.Method;
import java.nio.file.Files;
import java.nio.file.Path;
import java.util.ArrayList;
import java.util.List;
import java.util.regex.Matcher;
import java.util.regex.Pattern;

/** README.md holds: each call of its example answers as the comment behind it says, and each test is named. */
public final class ReadmeTest {
    private static final Pattern LINE = Pattern.compile("x\\.(\\w+)\\(([^)]*)\\); +// ([^:]+): .*");
    private static final int FEWEST_CALLS = 20;

    private static final List<String> FAULTS = new ArrayList<>();

    public static void main(String[] args) throws Exception {
        String page = Files.readString(Path.of("README.md"));
        example(page);
        tests(page);
        FAULTS.forEach(System.out::println);
        System.out.println(FAULTS.isEmpty() ? "README.md holds" : "README.md does not hold");
        if (!FAULTS.isEmpty()) {
            System.exit(1);
        }
    }

    private static void example(String page) throws Exception {
        int from = page.indexOf("```java\n") + "```java\n".length();
        int to = page.indexOf("```", from);
        if (from < "```java\n".length() || to < from) {
            FAULTS.add("no example");
            return;
        }
        BargesByBreath x = null;
        int calls = 0;
        for (String line : page.substring(from, to).strip().split("\n")) {
            Matcher m = LINE.matcher(line);
            if (line.equals("BargesByBreath x = new BargesByBreath();")) {
                x = new BargesByBreath();
            } else if (x == null || !m.matches()) {
                FAULTS.add("not a call with its answer: " + line);
            } else {
                calls++;
                String got = answer(x, m.group(1), m.group(2));
                if (!got.equals(m.group(3))) {
                    FAULTS.add("got " + got + ": " + line);
                }
            }
        }
        if (calls < FEWEST_CALLS) {
            FAULTS.add("only " + calls + " calls");
        }
    }

    private static String answer(BargesByBreath x, String name, String arguments) throws Exception {
        String[] told = arguments.isEmpty() ? new String[0] : arguments.split(", ");
        Class<?>[] kinds = new Class<?>[told.length];
        Object[] values = new Object[told.length];
        for (int i = 0; i < told.length; i++) {
            kinds[i] = int.class;
            values[i] = Long.decode(told[i]).intValue();
        }
        Method call = BargesByBreath.class.getMethod(name, kinds);
        try {
            return String.valueOf(call.invoke(x, values));
        } catch (InvocationTargetException e) {
            return e.getCause().getClass().getSimpleName();
        }
    }

    private static void tests(String page) throws IOException {
        File[] files = new File("src/test/java").listFiles();
        for (File file : files == null ? new File[0] : files) {
            String name = file.getName().replace(".java", "");
            if (Files.readString(file.toPath()).contains("void main(String") && !page.contains("`" + name + "`")) {
                FAULTS.add(name + " is not named");
            }
        }
        Matcher named = Pattern.compile("`(\\w+Test)`").matcher(page);
        while (named.find()) {
            if (!new File("src/test/java/" + named.group(1) + ".java").isFile()) {
                FAULTS.add(named.group(1) + " is not there");
            }
        }
    }
}
