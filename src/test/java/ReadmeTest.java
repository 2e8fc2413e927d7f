import java.io.IOException;
import java.lang.reflect.Method;
import java.lang.reflect.Modifier;
import java.nio.file.Files;
import java.nio.file.Path;
import java.util.HashMap;
import java.util.List;
import java.util.Map;
import java.util.regex.Matcher;
import java.util.regex.Pattern;
import java.util.stream.Collectors;
import java.util.stream.Stream;

/** README.md says what is so: its example answers what stands behind it, its commands are those of .ci/run. */
public final class ReadmeTest {
    private static final Pattern CALL = Pattern.compile("int (\\w+) = loan\\.(\\w+)\\((.*)\\);\\s+// (-?\\d+): .+");
    private static final Pattern ERROR = Pattern.compile("\\| ([A-Z]+) \\| (-\\d+) \\| (\\d) \\| .+ \\|");
    private static final String JAVAC = "javac --release 17 -encoding UTF-8 -sourcepath %s -d %s %s %s";
    private static final String JAVA = "java -cp %s %s %s";

    private static int wrong = 0;

    private ReadmeTest() {
    }

    private static void due(String what, Object got, Object want) {
        if (!want.equals(got)) {
            wrong++;
            System.out.println(what + ": " + got + ", due is " + want);
        }
    }

    public static void main(String[] args) throws IOException, ReflectiveOperationException {
        Path main = Path.of(args.length > 0 ? args[0] : "src/main/java/ChapterLoan.java").toAbsolutePath();
        Path root = main.getParent().getParent().getParent().getParent();
        String readme = Files.readString(root.resolve("README.md"));
        example(blocks(readme, "java"));
        errors(readme);
        commands(blocks(readme, "sh"), Files.readString(root.resolve(".ci/run")));
        everyTestIsNamed(readme, root.resolve("src/test/java"));
        System.out.println(wrong == 0 ? "README.md says what is so" : wrong + " things in README.md are not so");
        if (wrong != 0) {
            System.exit(1);
        }
    }

    private static List<String> blocks(String readme, String language) {
        return Pattern.compile("```" + language + "\n(.*?)```", Pattern.DOTALL).matcher(readme).results()
            .flatMap(block -> block.group(1).lines()).collect(Collectors.toList());
    }

    // ---- the example

    private static void example(List<String> lines) throws ReflectiveOperationException {
        due("the example's first line", lines.isEmpty() ? "" : lines.get(0), "ChapterLoan loan = new ChapterLoan();");
        due("the example has calls", lines.size() > 1, true);
        ChapterLoan loan = new ChapterLoan();
        Map<String, Integer> named = new HashMap<>();
        for (String line : lines.subList(Math.min(1, lines.size()), lines.size())) {
            Matcher call = CALL.matcher(line);
            due("a call: " + line, call.matches(), true);
            if (call.matches()) {
                int got = made(loan, call.group(2), call.group(3), named);
                due(line, got, Integer.parseInt(call.group(4)));
                named.put(call.group(1), got);
            }
        }
    }

    private static int made(ChapterLoan loan, String name, String list, Map<String, Integer> named)
            throws ReflectiveOperationException {
        String[] texts = list.isEmpty() ? new String[0] : list.split(", ");
        for (Method m : ChapterLoan.class.getDeclaredMethods()) {
            if (m.getName().equals(name) && Modifier.isPublic(m.getModifiers())) {
                Object[] values = new Object[texts.length];
                for (int i = 0; i < texts.length; i++) {
                    long value = named.containsKey(texts[i]) ? named.get(texts[i]) : Long.decode(texts[i].replace("L", ""));
                    values[i] = m.getParameterTypes()[i] == long.class ? (Object) value : (Object) (int) value;
                }
                return (Integer) m.invoke(loan, values);
            }
        }
        throw new IllegalArgumentException("there is no " + name);
    }

    // ---- the ERRORS

    private static void errors(String readme) {
        Map<String, String> said = new HashMap<>();
        Matcher row = ERROR.matcher(readme);
        while (row.find()) {
            said.put(row.group(1), row.group(2) + " told " + row.group(3));
        }
        due("how many ERRORS", said.size(), 5);
        ChapterLoan x = new ChapterLoan();
        due("BEYOND", said.get("BEYOND"), x.fact(-1, 0) + " told " + toldBy(x));
        x = new ChapterLoan();
        due("NONE", said.get("NONE"), x.restore() + " told " + toldBy(x));
        x = new ChapterLoan();
        due("STATE", said.get("STATE"), x.sheet(0, 8, -1) + " told " + toldBy(x));
        x = new ChapterLoan();
        for (int i = 0; i < 20; i++) {
            x.tell(i);
        }
        due("FULL", said.get("FULL"), x.tell(20) + " told " + toldBy(x));
        x = new ChapterLoan();
        x.debtor(0, 0);
        due("KIND", said.get("KIND"), x.as(0, 1) + " told " + toldBy(x));
    }

    /** The k by which told() tells the one ERROR that there was. */
    private static int toldBy(ChapterLoan x) {
        for (int k = 1; k <= 5; k++) {
            if (x.told(k) == 1) {
                return k;
            }
        }
        return 0;
    }

    // ---- the commands

    private static void commands(List<String> lines, String ci) {
        String main = "src/main/java/ChapterLoan.java";
        String own = "src/test/java";
        for (String test : new String[] {own + "/PromisesTest.java", "../shared/tests/ChapterLoanRuns.java"}) {
            String name = test.substring(test.lastIndexOf('/') + 1).replace(".java", "");
            has("README.md", lines, String.format(JAVAC, own, "out", main, test));
            has("README.md", lines, String.format(JAVA, "out", name, main));
        }
        has("README.md", lines, ".ci/run");
        List<String> run = ci.lines().map(line -> line.replaceAll("^\\s*&& | \\\\$", "")).collect(Collectors.toList());
        has(".ci/run", run, String.format(JAVAC, "\"$own\"", "\"$out/$2-$name\"", "\"$main\"", "\"$1\""));
        has(".ci/run", run, String.format(JAVA, "\"$out/$2-$name\"", "\"$name\"", "\"$main\""));
    }

    private static void has(String file, List<String> lines, String command) {
        due(file + " has " + command, lines.contains(command), true);
    }

    private static void everyTestIsNamed(String readme, Path tests) throws IOException {
        try (Stream<Path> files = Files.list(tests)) {
            files.map(file -> file.getFileName().toString().replace(".java", ""))
                .filter(name -> name.endsWith("Test"))
                .forEach(name -> due("README.md names " + name, readme.contains("`" + name + "`"), true));
        }
    }
}
