import java.lang.reflect.Method;
import java.nio.file.Files;
import java.nio.file.Path;
import java.util.regex.Matcher;
import java.util.regex.Pattern;

/** The run of calls that README.md shows, with the answers that it tells behind them. */
public final class ReadmeTest {
    private static final Due due = new Due("ReadmeTest");
    private static final Pattern CALL = Pattern.compile("(?m)^h\\.(\\w+)\\(([^)]*)\\);\\s*// (-?\\d+)\\b");

    private static Object[] arguments(String text) {
        if (text.isBlank()) return new Object[0];
        String[] words = text.split(",");
        Object[] row = new Object[words.length];
        for (int k = 0; k < words.length; k++) {
            String word = words[k].trim();
            row[k] = word.equals("StickyHeap.NONE") ? StickyHeap.NONE : Integer.parseInt(word);
        }
        return row;
    }

    private static Method named(String name) {
        for (Method m : StickyHeap.class.getMethods()) if (m.getName().equals(name)) return m;
        throw new IllegalArgumentException("README.md shows a call that there is not: " + name);
    }

    public static void main(String[] args) throws Exception {
        Path readme = Path.of(args[0]).toAbsolutePath().getParent().resolve("../../../README.md");
        Matcher shown = CALL.matcher(Files.readString(readme));
        StickyHeap h = new StickyHeap();
        while (shown.find()) {
            Number got = (Number) named(shown.group(1)).invoke(h, arguments(shown.group(2)));
            due.is(shown.group(1) + "(" + shown.group(2) + ")", got.longValue(), Long.parseLong(shown.group(3)));
        }
        due.end();
    }
}
