import java.util.ArrayList;
import java.util.EnumSet;
import java.util.List;
import java.util.Set;
import java.util.regex.Matcher;
import java.util.regex.Pattern;

/**
 * Plays runs of calls that are written down with their answers, as "prime(5) = 3". "==" begins a run
 * on a new object and says what it is for, "new" begins one within it, "#" says why. A place "1..5"
 * stands for as many calls, and several answers for one call each; "BAD x 4" is BAD four times.
 */
final class Runs {
    private static final Pattern LINE = Pattern.compile("(\\w+)\\(([-\\d., ]*)\\) = (.+)");
    private static final int CALLS_MOST = 512;

    private final String file;
    private final Set<Call> met = EnumSet.noneOf(Call.class);
    private FieldCounts object = new FieldCounts();
    private String run = "";
    private int used = 0;
    private int runs = 0;

    Runs(String file) {
        this.file = file;
    }

    /** Which calls have been played. */
    Set<Call> met() {
        return met;
    }

    /** How many runs have been begun. */
    int runs() {
        return runs;
    }

    void play(List<String> lines) {
        for (String line : lines) {
            play(line.strip());
        }
    }

    private void play(String line) {
        if (line.startsWith("==")) {
            begin(line.substring(2).strip());
        } else if (line.equals("new")) {
            begin(run);
        } else if (!line.isEmpty() && !line.startsWith("#")) {
            Matcher matcher = LINE.matcher(line);
            if (!matcher.matches()) {
                throw new IllegalArgumentException(file + ": " + line);
            }
            ask(Call.named(matcher.group(1)), matcher.group(2), answers(matcher.group(3)));
        }
    }

    private void begin(String what) {
        run = what;
        runs++;
        object = new FieldCounts();
        used = 0;
    }

    private void ask(Call call, String places, List<Long> answers) {
        for (int i = 0; i < answers.size(); i++) {
            int[] numbers = numbers(call, places, i, answers.size());
            if (used++ >= CALLS_MOST) {
                throw new IllegalArgumentException(file + ", " + run + ": more than 512 calls");
            }
            met.add(call);
            String label = file + ", " + run + ": " + call.said(numbers);
            Checks.due(label, call.ask(object, numbers), answers.get(i));
        }
    }

    /** The numbers of the i-th of so many calls. */
    private int[] numbers(Call call, String places, int i, int many) {
        String[] parts = places.isBlank() ? new String[0] : places.split(",");
        if (parts.length != call.places) {
            throw new IllegalArgumentException(file + ": " + call + " of " + places);
        }
        int[] numbers = new int[parts.length];
        for (int at = 0; at < parts.length; at++) {
            String[] ends = parts[at].strip().split("\\.\\.");
            numbers[at] = Integer.parseInt(ends[0]) + (ends.length > 1 ? i : 0);
            if (ends.length > 1 && Integer.parseInt(ends[1]) - Integer.parseInt(ends[0]) != many - 1) {
                throw new IllegalArgumentException(file + ": " + many + " answers for " + places);
            }
        }
        return numbers;
    }

    private static List<Long> answers(String text) {
        List<Long> answers = new ArrayList<>();
        for (String part : text.split(",")) {
            String[] times = part.strip().split(" x ");
            for (int i = times.length > 1 ? Integer.parseInt(times[1]) : 1; i > 0; i--) {
                answers.add(answer(times[0]));
            }
        }
        return answers;
    }

    /** A number, or one of the document's names for it. */
    static long answer(String word) {
        return switch (word) {
            case "BAD" -> FieldCounts.BAD;
            case "STATE" -> FieldCounts.STATE;
            case "FULL" -> FieldCounts.FULL;
            case "NONE" -> FieldCounts.NONE;
            case "NO" -> FieldCounts.NO;
            default -> Long.parseLong(word);
        };
    }
}
