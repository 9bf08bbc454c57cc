import java.io.IOException;
import java.nio.file.Files;
import java.nio.file.Path;
import java.util.regex.Matcher;
import java.util.regex.Pattern;

/** What README.md shows under "Use" is so: its calls are read, made, and their answers held against those beside them. */
public final class ReadmeTest extends Bench {
    private static final Pattern CALL = Pattern.compile("^x\\.(\\w+)\\(([^)]*)\\);\\s+// (-?\\d+|NONE)\\b.*");
    private static final Pattern TEXT = Pattern.compile("^(?:String )?text = \"([^\"]*)\";.*");

    public static void main(String[] args) throws IOException {
        String readme = Files.readString(Path.of("README.md"));
        int start = readme.indexOf("```java") + "```java".length();
        LyingBeacons x = new LyingBeacons();
        int calls = 0;
        for (String line : readme.substring(start, readme.indexOf("```", start)).split("\n")) {
            Matcher text = TEXT.matcher(line);
            if (text.matches()) {
                add(x, text.group(1));
            }
            Matcher call = CALL.matcher(line);
            if (call.matches()) {
                int want = call.group(3).equals("NONE") ? NONE : Integer.parseInt(call.group(3));
                due("README: " + line, made(x, call.group(1), call.group(2)), want);
                calls++;
            }
        }
        due("README: calls that were read", calls, 18);
        numbersAreAsTold(readme);
        end();
    }

    private static int made(LyingBeacons x, String name, String numbers) {
        int[] n = numbers.isEmpty() ? new int[0] : Pattern.compile(", ").splitAsStream(numbers).mapToInt(Integer::parseInt).toArray();
        Class<?>[] types = new Class<?>[n.length];
        Object[] values = new Object[n.length];
        for (int i = 0; i < n.length; i++) {
            types[i] = int.class;
            values[i] = n[i];
        }
        try {
            return (int) LyingBeacons.class.getMethod(name, types).invoke(x, values);
        } catch (ReflectiveOperationException e) {
            throw new IllegalStateException("README shows a call that there is not: " + name, e);
        }
    }

    private static void numbersAreAsTold(String readme) {
        due("README: BAD", readme.contains("| `BAD` | " + LyingBeacons.BAD + " |"));
        due("README: NO", readme.contains("| `NO` | " + LyingBeacons.NO + " |"));
        due("README: NONE", readme.contains("| `NONE` | " + LyingBeacons.NONE + " |"));
        due("README: FULL", readme.contains("| `FULL` | " + LyingBeacons.FULL + " |"));
    }
}
