import java.io.IOException;
import java.nio.file.Files;
import java.nio.file.Path;
import java.util.EnumSet;
import java.util.List;
import java.util.Set;
import java.util.stream.Stream;

/** The runs of calls written down in src/test/runs: one for each sentence of the document, at least. */
public final class RunsTest {
    private RunsTest() {
    }

    public static void main(String[] args) throws IOException {
        List<Path> files;
        try (Stream<Path> found = Files.list(Path.of("src/test/runs"))) {
            files = found.filter(file -> file.toString().endsWith(".txt")).sorted().toList();
        }
        Set<Call> met = EnumSet.noneOf(Call.class);
        for (Path file : files) {
            Runs runs = new Runs(file.getFileName().toString());
            runs.play(Files.readAllLines(file));
            met.addAll(runs.met());
            Checks.holds("runs in " + file, runs.runs() > 0);
        }
        Checks.due("calls met", met.size(), Call.values().length);
        Checks.finish();
    }
}
