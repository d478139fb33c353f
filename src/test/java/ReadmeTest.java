import java.io.IOException;
import java.lang.reflect.Method;
import java.nio.file.Files;
import java.nio.file.Path;
import java.util.ArrayList;
import java.util.Arrays;
import java.util.LinkedHashMap;
import java.util.List;
import java.util.Map;
import java.util.regex.Matcher;
import java.util.regex.Pattern;
import java.util.stream.Stream;

/**
 * README.md against the program: its example is played, and its calls, codes and tests are compared with those
 * that there are. The test runs in the root of the checkout.
 */
public final class ReadmeTest {
    private static final Path README = Path.of("README.md");
    private static final Path SOURCE = Path.of("src/main/java/TrophyPlates.java");
    private static final Path TESTS = Path.of("src/test/java");

    private static final Pattern EXAMPLE = Pattern.compile("(?s)```java\n(.*?)```");
    private static final Pattern STEP = Pattern.compile("shop\\.(\\w+)\\((.*?)\\); +// (-?\\d+)\\b.*");
    private static final Pattern CALL_ROW = Pattern.compile("(?m)^\\| `(\\w+\\([\\w, ]*\\))` \\| .+ \\| ([-0-9, ]+|none) \\|$");
    private static final Pattern CODE_ROW = Pattern.compile("(?m)^\\| `([A-Z_]+)` \\| (-\\d+) \\| .+ \\|$");
    private static final Pattern FACE = Pattern.compile("(?m)^    public int (\\w+)\\((.*)\\) \\{$");
    private static final Pattern CONSTANT = Pattern.compile("(?m)^    public static final int ([A-Z_]+) = (-\\d+);$");
    private static final Pattern TEST_NAMED = Pattern.compile("`(\\w+(?:Edges|Test|Runs))`");

    private static int wrong = 0;

    public static void main(String[] args) throws Exception {
        String readme = Files.readString(README);
        String source = Files.readString(SOURCE);
        playExample(readme);
        same("the calls", callsTold(readme), callsThatStand(source));
        same("the codes of the calls", codesTold(readme), Codes.ofCalls().toString());
        same("the constants, in README.md", constants(CODE_ROW, readme), Codes.CONSTANTS.toString());
        same("the constants, in the program", constants(CONSTANT, source), Codes.CONSTANTS.toString());
        same("the tests", testsTold(readme), testsThatStand());
        if (!readme.contains("```sh\n.ci/run\n```") || !Files.isExecutable(Path.of(".ci/run"))) {
            fail(".ci/run is not told, or can't be run");
        }
        System.out.println(wrong == 0 ? "README.md holds" : wrong + " statements of README.md do not hold");
        if (wrong != 0) {
            System.exit(1);
        }
    }

    private static void fail(String what) {
        wrong++;
        System.out.println(what);
    }

    private static void same(String what, String told, String stands) {
        if (!told.equals(stands)) {
            fail(what + ": README.md tells " + told + ", there are " + stands);
        }
    }

    private static void playExample(String readme) throws ReflectiveOperationException {
        Matcher example = EXAMPLE.matcher(readme);
        List<String> lines = example.find() ? example.group(1).lines().toList() : List.of();
        if (lines.size() < 2 || !lines.get(0).equals("TrophyPlates shop = new TrophyPlates();")) {
            fail("there is no example that begins with a new object");
            return;
        }
        TrophyPlates shop = new TrophyPlates();
        for (String line : lines.subList(1, lines.size())) {
            Matcher step = STEP.matcher(line);
            if (!step.matches()) {
                fail("the example has a line that is no call with its answer: " + line);
            } else if (play(shop, step.group(1), step.group(2)) != Integer.parseInt(step.group(3))) {
                fail("the example's answer does not hold: " + line);
            }
        }
    }

    private static int play(TrophyPlates shop, String name, String arguments) throws ReflectiveOperationException {
        List<Integer> numbers = new ArrayList<>();
        for (String argument : arguments.isEmpty() ? new String[0] : arguments.split(", ")) {
            numbers.add(argument.startsWith("'") ? Integer.valueOf(argument.charAt(1)) : Integer.valueOf(argument));
        }
        Class<?>[] types = new Class<?>[numbers.size()];
        Arrays.fill(types, int.class);
        Method method = TrophyPlates.class.getMethod(name, types);
        return (Integer) method.invoke(shop, numbers.toArray());
    }

    private static String callsTold(String readme) {
        return CALL_ROW.matcher(readme).results().map(row -> row.group(1)).toList().toString();
    }

    private static String callsThatStand(String source) {
        return FACE.matcher(source).results()
            .map(face -> face.group(1) + "(" + face.group(2).replace("int ", "") + ")").toList().toString();
    }

    private static String codesTold(String readme) {
        Map<String, List<Integer>> codes = new LinkedHashMap<>();
        CALL_ROW.matcher(readme).results().forEach(row -> {
            String[] told = row.group(2).equals("none") ? new String[0] : row.group(2).split(", ");
            codes.put(row.group(1).replaceAll("\\(.*", ""), Stream.of(told).map(Integer::valueOf).toList());
        });
        return codes.toString();
    }

    private static String constants(Pattern row, String text) {
        return row.matcher(text).results().map(found -> found.group(1) + " " + found.group(2)).toList().toString();
    }

    private static String testsTold(String readme) {
        return TEST_NAMED.matcher(readme).results().map(found -> found.group(1)).distinct().sorted().toList().toString();
    }

    private static String testsThatStand() throws IOException {
        try (Stream<Path> files = Files.list(TESTS)) {
            return files.map(file -> file.getFileName().toString().replace(".java", "")).sorted().toList().toString();
        }
    }
}
