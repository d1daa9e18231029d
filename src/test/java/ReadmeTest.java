import java.io.IOException;
import java.nio.file.Files;
import java.nio.file.Path;
import java.util.Arrays;
import java.util.Set;
import java.util.TreeSet;
import java.util.regex.Matcher;
import java.util.regex.Pattern;
import java.util.stream.Stream;

/** What README.md tells of the class and of its tests is so. */
final class ReadmeTest {
    private static final Checks CHECKS = new Checks();
    private static final Pattern CALL = Pattern.compile("(?m)^crew\\.(\\w+)\\(([^)]*)\\); *// (-?[0-9]+): ");
    private static final Pattern FINDING = Pattern.compile("(?m)^\\| ([A-Z]+) \\| (-[0-9]+) \\|");
    private static final Pattern ACT_ROW = Pattern.compile("(?m)^\\| [a-z, ]+ \\| ([*`A-Za-z ]*`[*`A-Za-z ]*) \\|$");
    private static final Pattern TEST_ROW = Pattern.compile("(?m)^\\| `(\\w+)` \\|");

    public static void main(String[] args) throws IOException {
        String page = Files.readString(Path.of(System.getProperty("starcrew.readme", "README.md")));
        example(page);
        findings(page);
        CHECKS.holds("every act is named", named(page, ACT_ROW, "`(\\w+)`").equals(Calls.ACTS.keySet()));
        CHECKS.holds("every test is named", named(page, TEST_ROW, "(\\w+)").equals(tests()));
        CHECKS.holds("the command is named", page.contains("\n```sh\n.ci/run\n```\n"));
        CHECKS.end();
    }

    private static void example(String page) {
        Caller x = new Calls();
        int calls = 0;
        Matcher m = CALL.matcher(page);
        while (m.find()) {
            int[] a = Stream.of(m.group(2).split(", ")).filter(s -> !s.isEmpty()).mapToInt(Integer::decode).toArray();
            CHECKS.due("README: " + m.group(1) + Arrays.toString(a), x.call(m.group(1), a), Long.parseLong(m.group(3)));
            calls++;
        }
        CHECKS.due("lines of the example", calls, page.lines().filter(line -> line.startsWith("crew.")).count());
        CHECKS.holds("there is an example", calls > 0);
    }

    private static void findings(String page) {
        String told = "";
        Matcher m = FINDING.matcher(page);
        while (m.find()) {
            told += m.group(1) + m.group(2) + " ";
        }
        CHECKS.holds("the findings are told: " + told, told.equals("BEYOND-1000001 FULL-1000002 KIND-1000003 "
            + "NONE-1000004 STATE-1000005 MISSING-1000006 SIZE-1000007 "));
    }

    private static Set<String> named(String page, Pattern row, String name) {
        Set<String> found = new TreeSet<>();
        Matcher rows = row.matcher(page);
        while (rows.find()) {
            Matcher names = Pattern.compile(name).matcher(rows.group(1));
            while (names.find()) {
                found.add(names.group(1));
            }
        }
        return found;
    }

    private static Set<String> tests() throws IOException {
        Set<String> found = new TreeSet<>();
        Path folder = Path.of(System.getProperty("starcrew.tests", "src/test"), "java");
        try (Stream<Path> files = Files.list(folder)) {
            files.map(file -> file.getFileName().toString()).filter(name -> name.endsWith("Test.java"))
                .forEach(name -> found.add(name.substring(0, name.length() - 5)));
        }
        return found;
    }
}
