import java.lang.reflect.Method;
import java.lang.reflect.Modifier;
import java.nio.file.Files;
import java.nio.file.Path;
import java.util.regex.Matcher;
import java.util.regex.Pattern;

/** What README.md shows is so: its calls, in their order, answer the numbers behind them. */
final class ReadmeTest {
    private static final Pattern CALL = Pattern.compile(" {4}x\\.(\\w+)\\(([-\\d, ]*)\\); +// (-?\\d+):.*");
    private static final Pattern LETTERS = Pattern.compile(" {4}for \\(char c : \"(.*)\"\\.toCharArray\\(\\)\\) x\\.feed\\(c\\);");

    public static void main(String[] args) throws Exception {
        PaidByTheUnborn x = null;
        int asked = 0;
        for (String line : Files.readAllLines(Path.of("README.md"))) {
            Matcher call = CALL.matcher(line);
            Matcher letters = LETTERS.matcher(line);
            if (line.equals("    PaidByTheUnborn x = new PaidByTheUnborn();")) {
                x = new PaidByTheUnborn();
            } else if (letters.matches()) {
                Due.tell(x, letters.group(1));
            } else if (call.matches()) {
                Due.is(line.strip(), ask(x, call.group(1), call.group(2)), Long.parseLong(call.group(3)));
                asked++;
            } else {
                Due.holds("read: " + line, !line.contains("x."));
            }
        }
        Due.holds("it shows calls: " + asked, asked > 30);
        Due.end();
    }

    private static long ask(PaidByTheUnborn x, String name, String numbers) throws Exception {
        String[] given = numbers.isEmpty() ? new String[0] : numbers.split(", ");
        Object[] boxed = new Object[given.length];
        for (int p = 0; p < given.length; p++) boxed[p] = Integer.valueOf(given[p]);
        for (Method m : PaidByTheUnborn.class.getDeclaredMethods()) {
            if (m.getName().equals(name) && Modifier.isPublic(m.getModifiers())) return ((Number) m.invoke(x, boxed)).longValue();
        }
        throw new IllegalArgumentException(name);
    }
}
