import java.io.IOException;
import java.nio.file.Files;
import java.nio.file.Path;
import java.util.regex.Matcher;
import java.util.regex.Pattern;

/** The run of calls in README.md: each answer is to be the one that stands behind the call. */
public final class ReadmeTest {
    private static final Due DUE = new Due("ReadmeTest");
    private static final Pattern CALL = Pattern.compile("shop\\.(\\w+)\\(([-0-9, ]*)\\);\\s+// (-?[0-9]+): .*");
    private static final Pattern TEXT = Pattern.compile("for \\(char sign : \"(.*)\"\\.toCharArray\\(\\)\\) \\{");

    public static void main(String[] args) throws IOException {
        String readme = Files.readString(Path.of("README.md"));
        int begin = readme.indexOf("```java\n");
        int end = readme.indexOf("```", begin + 3);
        DUE.holds("there is no run of calls", begin >= 0 && end > begin);
        if (begin >= 0 && end > begin) {
            runs(readme.substring(begin, end).split("\n"));
        }
        DUE.end();
    }

    private static void runs(String[] lines) {
        SqueakShop shop = new SqueakShop();
        int calls = 0;
        for (String line : lines) {
            Matcher call = CALL.matcher(line);
            Matcher text = TEXT.matcher(line);
            if (call.matches()) {
                calls++;
                DUE.is(line, Calls.answer(shop, call.group(1), numbers(call.group(2))), Long.parseLong(call.group(3)));
            } else if (text.matches()) {
                for (char sign : text.group(1).toCharArray()) {
                    shop.feed(sign);
                }
            } else {
                DUE.holds("an answer is not told: " + line, !line.contains("//"));
            }
        }
        DUE.holds("so few calls: " + calls, calls > 9);
    }

    private static long[] numbers(String given) {
        String[] words = given.isBlank() ? new String[0] : given.split(",");
        long[] numbers = new long[words.length];
        for (int i = 0; i < words.length; i++) {
            numbers[i] = Long.parseLong(words[i].trim());
        }
        return numbers;
    }
}
