import java.io.IOException;
import java.io.UncheckedIOException;
import java.nio.file.Files;
import java.nio.file.Path;
import java.util.Map;
import java.util.TreeMap;
import java.util.regex.Matcher;
import java.util.regex.Pattern;

/** The numbers that the document gives to the calls. */
final class Promises {
    private static final Map<String, Integer> NUMBERS = new TreeMap<>();

    static {
        try {
            Matcher m = Pattern.compile("## Promise (\\d+): (\\w+)\n").matcher(Files.readString(Path.of("../shared/DOC.md")));
            while (m.find()) {
                NUMBERS.put(m.group(2), Integer.parseInt(m.group(1)));
            }
        } catch (IOException e) {
            throw new UncheckedIOException(e);
        }
    }

    private Promises() {
    }

    static int of(String call) {
        return NUMBERS.get(call);
    }
}
