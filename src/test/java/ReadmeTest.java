import java.io.IOException;
import java.lang.reflect.Method;
import java.lang.reflect.Modifier;
import java.nio.file.Files;
import java.nio.file.Path;
import java.util.regex.Matcher;
import java.util.regex.Pattern;

/** The example of README.md answers what stands there, and its table leaves out no call of the face. */
public final class ReadmeTest {
    private static final Pattern CALL = Pattern.compile("x\\.(\\w+)\\(([^)]*)\\);\\s+//(?: = (\\S+))?.*");

    private ReadmeTest() {
    }

    public static void main(String[] args) throws IOException {
        String text = Files.readString(Path.of("README.md"));
        example(text);
        table(text);
        Due.end();
    }

    private static void example(String text) {
        CurveShelf x = new CurveShelf();
        int calls = 0;
        for (String line : text.split("\n")) {
            Matcher m = CALL.matcher(line);
            if (line.startsWith("x.")) {
                Due.is("README.md can be read: " + line, m.matches(), true);
            }
            if (m.matches()) {
                calls++;
                Call.of(row(m)).on(x, "README.md");
            }
        }
        Due.is("README.md has an example", calls > 0, true);
    }

    private static String row(Matcher m) {
        String row = (m.group(1) + " " + m.group(2).replace(",", "")).trim();
        if (m.group(3) == null) {
            return row;
        }
        return row + " = " + (m.group(3).equals("true") ? "1" : m.group(3).equals("false") ? "0" : m.group(3));
    }

    private static void table(String text) {
        for (Method m : CurveShelf.class.getDeclaredMethods()) {
            if (Modifier.isPublic(m.getModifiers())) {
                Pattern named = Pattern.compile("(?m)^\\|.*`" + m.getName() + "`.*$");
                Due.is("README.md's table tells of " + m.getName(), named.matcher(text).find(), true);
            }
        }
    }
}
