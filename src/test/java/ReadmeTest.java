import java.io.IOException;
import java.nio.file.Files;
import java.nio.file.Path;
import java.util.function.LongSupplier;
import java.util.regex.Matcher;
import java.util.regex.Pattern;

/** The example in README.md: each of its rows, in order on one object, answers what stands behind it. */
public final class ReadmeTest {
    private static final Pattern ROW = Pattern.compile("x\\.(\\w+)\\((.*)\\); +// ([-\\w]+): .*");
    private static final PrimitiveBits X = new PrimitiveBits();

    public static void main(String[] args) throws IOException {
        Due due = new Due();
        int rows = 0;
        for (String line : Files.readAllLines(Path.of("README.md"))) {
            if (line.startsWith("x.")) {
                rows++;
                check(due, line);
            }
        }
        due.same("README.md has an example", rows > 0 ? 1 : 0, 1);
        due.end();
    }

    private static void check(Due due, String line) {
        Matcher row = ROW.matcher(line);
        if (!row.matches()) {
            throw new IllegalStateException("no answer stands behind the call: " + line);
        }
        due.same("README.md: " + line, Due.outcome(call(row.group(1), numbers(row.group(2)))), outcome(row.group(3)));
    }

    private static LongSupplier call(String name, long[] n) {
        switch (name) {
            case "binary":
                return () -> X.binary((int) n[0], n[1], n[2], (int) n[3]);
            case "minus":
                return () -> X.minus(n[0], (int) n[1]);
            case "cast":
                return () -> X.cast(n[0], (int) n[1], (int) n[2]);
            case "compare":
                return () -> X.compare(n[0], n[1], (int) n[2]);
            case "text":
                return () -> X.text(n[0], (int) n[1]);
            case "take":
                return X::take;
            default:
                throw new IllegalStateException("no such call: " + name);
        }
    }

    private static long[] numbers(String list) {
        String[] words = list.isEmpty() ? new String[0] : list.split(", ");
        long[] numbers = new long[words.length];
        for (int i = 0; i < words.length; i++) {
            numbers[i] = number(words[i].replace("L", ""));
        }
        return numbers;
    }

    private static String outcome(String word) {
        return word.endsWith("Exception") ? word : Long.toString(number(word));
    }

    private static long number(String word) {
        return word.startsWith("0x") ? Long.parseUnsignedLong(word.substring(2), 16) : Long.parseLong(word);
    }
}
