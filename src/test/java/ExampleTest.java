import java.io.IOException;
import java.nio.file.Files;
import java.nio.file.Path;
import java.util.regex.Matcher;
import java.util.regex.Pattern;

/** The calls that README.md shows answer what stands behind them there. */
public final class ExampleTest {
    private static final Pattern CALL = Pattern.compile("(?m)^house\\.(\\w+)\\(([^)]*)\\);\\s+// (-?\\w+)");

    public static void main(String[] args) throws IOException {
        ModuleHouse house = new ModuleHouse();
        Matcher shown = CALL.matcher(Files.readString(Path.of("README.md")));
        int calls = 0;
        while (shown.find()) {
            String[] numbers = shown.group(2).isEmpty() ? new String[0] : shown.group(2).split(", ");
            long[] given = new long[numbers.length];
            for (int k = 0; k < given.length; k++) {
                given[k] = Long.decode(numbers[k].replace("L", ""));
            }
            String name = shown.group(1);
            Support.dueText(shown.group(), Support.said(() -> answer(house, name, given)), shown.group(3));
            calls++;
        }
        Support.due("README.md shows calls", calls > 10 ? 1 : 0, 1);
        Support.end();
    }

    private static long answer(ModuleHouse house, String name, long[] given) {
        return switch (name) {
            case "feed" -> house.feed((int) given[0], given[1]);
            case "load" -> house.load();
            case "give" -> house.give(given[0]);
            case "call" -> house.call((int) given[0]);
            case "result" -> house.result((int) given[0]);
            case "global" -> house.global((int) given[0]);
            case "at" -> house.at((int) given[0]);
            case "look" -> house.look((int) given[0]);
            default -> throw new AssertionError(name);
        };
    }
}
