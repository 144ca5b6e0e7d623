import java.io.IOException;
import java.nio.file.Files;
import java.nio.file.Path;
import java.util.regex.Matcher;
import java.util.regex.Pattern;

/** The run of calls in README.md: each answers what is told behind it. */
final class ReadmeTest {
    private static final String NEW = "ThirdOfTheLast x = new ThirdOfTheLast();";
    private static final Pattern CALL = Pattern.compile("x\\.(\\w+)\\((.*?)\\); +// (-?\\d+|throws \\w+)\\b.*");
    private static final Pattern SIGN = Pattern.compile("'(.)'");

    public static void main(String[] args) throws IOException {
        Used x = null;
        int told = 0;
        for (String line : Files.readAllLines(Path.of("README.md"))) {
            if (line.equals(NEW)) {
                x = new Used();
            } else if (line.startsWith("x.")) {
                Check.isTrue("behind a new object: " + line, x != null);
                ask(x, line);
                told++;
            }
        }
        Check.isTrue("a run of calls is told", told > 20);
        Check.end("ReadmeTest");
    }

    private static void ask(Used x, String line) {
        Matcher call = CALL.matcher(line);
        boolean isCall = call.matches();
        Check.isTrue("a call and its answer: " + line, isCall);
        if (isCall && x != null) {
            String numbers = SIGN.matcher(call.group(2)).replaceAll(sign -> "" + (int) sign.group(1).charAt(0));
            x.due((call.group(1) + " " + numbers.replace(",", "")).trim(), answer(call.group(3)));
        }
    }

    private static long answer(String told) {
        switch (told) {
            case "throws IllegalArgumentException": return Model.ARGUMENT;
            case "throws IllegalStateException": return Model.STATE;
            default: return Long.parseLong(told);
        }
    }
}
