import java.io.IOException;
import java.nio.file.Files;
import java.nio.file.Path;
import java.util.EnumSet;
import java.util.Set;
import java.util.regex.Matcher;
import java.util.regex.Pattern;

/** The calls that README.md shows, with the answers that it names: all of the face are there. */
public final class ReadmeTest {
    private static final Pattern SHOWN = Pattern.compile("x\\.(\\w+)\\(([-\\d, ]*)\\); +// (-?\\w+).*");

    private ReadmeTest() {
    }

    public static void main(String[] args) throws IOException {
        Set<Call> met = EnumSet.noneOf(Call.class);
        FieldCounts x = null;
        boolean code = false;
        for (String line : Files.readAllLines(Path.of("README.md"))) {
            if (line.startsWith("```")) {
                code = line.equals("```java");
            } else if (code && line.startsWith("FieldCounts x = new FieldCounts();")) {
                x = new FieldCounts();
            } else if (code && !line.isBlank()) {
                Matcher shown = SHOWN.matcher(line);
                Checks.holds("a call with its answer: " + line, shown.matches());
                if (shown.matches()) {
                    Call call = Call.named(shown.group(1));
                    met.add(call);
                    long due = Runs.answer(shown.group(3));
                    Checks.due("README.md: " + line, call.ask(x, numbers(shown.group(2))), due);
                }
            }
        }
        Checks.holds("shown: " + met, met.size() == Call.values().length);
        Checks.finish();
    }

    private static int[] numbers(String places) {
        String[] parts = places.isBlank() ? new String[0] : places.split(", *");
        int[] numbers = new int[parts.length];
        for (int i = 0; i < numbers.length; i++) {
            numbers[i] = Integer.parseInt(parts[i]);
        }
        return numbers;
    }
}
