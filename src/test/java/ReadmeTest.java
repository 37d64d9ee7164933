import java.nio.file.Files;
import java.nio.file.Path;
import java.util.Set;
import java.util.TreeSet;
import java.util.regex.Matcher;
import java.util.regex.Pattern;

/** The example of README.md: its calls, in their order, answer what is told beside them. */
public final class ReadmeTest {
    private static final Pattern CALL =
            Pattern.compile("link\\.(\\w+)\\((-?\\d+)?(?:, )?(true|false)?\\); +// (\\w+).*");

    private static final Set<String> METHODS = Set.of(
            "send", "flip", "drop", "insert", "clear", "bits", "bit",
            "frames", "place", "message", "mended", "good");

    public static void main(String[] args) throws Exception {
        DeepSpaceLink link = new DeepSpaceLink();
        Set<String> shown = new TreeSet<>();
        for (String text : Files.readAllLines(Path.of("README.md"))) {
            if (!text.startsWith("link.")) {
                continue;
            }
            Matcher call = CALL.matcher(text);
            Check.due("can be read: " + text, call.matches() ? 1 : 0, 1);
            if (call.matches()) {
                shown.add(call.group(1));
                int argument = call.group(2) == null ? 0 : Integer.parseInt(call.group(2));
                int got = answer(link, call.group(1), argument, "true".equals(call.group(3)));
                Check.due("README.md: " + text, got, told(call.group(4)));
            }
        }
        for (String method : METHODS) {
            Check.due("README.md shows " + method, shown.contains(method) ? 1 : 0, 1);
        }
        Check.end();
    }

    private static int told(String answer) {
        return switch (answer) {
            case "BAD" -> DeepSpaceLink.BAD;
            case "FULL" -> DeepSpaceLink.FULL;
            case "LOST" -> DeepSpaceLink.LOST;
            default -> Integer.parseInt(answer);
        };
    }

    private static int answer(DeepSpaceLink link, String method, int argument, boolean one) {
        return switch (method) {
            case "send" -> link.send(argument);
            case "flip" -> link.flip(argument);
            case "drop" -> link.drop(argument);
            case "insert" -> link.insert(argument, one);
            case "clear" -> link.clear();
            case "bits" -> link.bits();
            case "bit" -> link.bit(argument);
            case "frames" -> link.frames();
            case "place" -> link.place(argument);
            case "message" -> link.message(argument);
            case "mended" -> link.mended(argument);
            case "good" -> link.good();
            default -> throw new IllegalArgumentException("no such method: " + method);
        };
    }
}
