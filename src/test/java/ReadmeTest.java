import java.io.IOException;
import java.lang.reflect.InvocationTargetException;
import java.lang.reflect.Method;
import java.lang.reflect.Modifier;
import java.nio.file.Files;
import java.nio.file.Path;
import java.util.regex.Matcher;
import java.util.regex.Pattern;

/** README.md tells the truth: its example is run call by call, its texts are taken, its tables name every call. */
public final class ReadmeTest {
    private static final Pattern CALL = Pattern.compile("(?m)^books\\.(\\w+)\\(([^)]*)\\); +// (-?\\d+|true|false):");
    private static final Pattern TEXT = Pattern.compile("(?m)^\\| (realm|law|campaign) \\| `([^`]+)` \\|");

    private ReadmeTest() {
    }

    public static void main(String[] args) throws IOException, InvocationTargetException, IllegalAccessException {
        String readme = Files.readString(Path.of("README.md"));
        example(readme);
        texts(readme);
        names(readme);
        Check.end();
    }

    private static void example(String readme) throws InvocationTargetException, IllegalAccessException {
        LosersBooks books = new LosersBooks();
        Matcher call = CALL.matcher(readme);
        int calls = 0;
        while (call.find()) {
            calls++;
            Object got = method(call.group(1)).invoke(books, numbers(call.group(2)));
            Check.due(call.group() + " " + got, String.valueOf(got).equals(call.group(3)), true);
        }
        Check.due("calls with an answer behind them", calls, readme.split("(?m)^books\\.", -1).length - 1);
        Check.due("there is an example", calls > 0, true);
    }

    private static Method method(String name) {
        for (Method m : LosersBooks.class.getDeclaredMethods()) {
            if (m.getName().equals(name) && Modifier.isPublic(m.getModifiers())) {
                return m;
            }
        }
        throw new IllegalStateException("no call " + name);
    }

    private static Object[] numbers(String list) {
        String[] parts = list.isBlank() ? new String[0] : list.split(",");
        Object[] out = new Object[parts.length];
        for (int i = 0; i < parts.length; i++) {
            out[i] = Integer.decode(parts[i].trim());
        }
        return out;
    }

    private static void texts(String readme) {
        Matcher text = TEXT.matcher(readme);
        int rows = 0;
        while (text.find()) {
            rows++;
            int sort = text.group(1).equals("realm") ? 0 : text.group(1).equals("law") ? 1 : 2;
            LosersBooks books = new LosersBooks();
            Check.feed(books, text.group(2));
            Check.due("fault of " + text.group(2), books.fault(sort), -1);
        }
        Check.due("texts", rows, 3);
    }

    private static void names(String readme) {
        String calls = readme.substring(readme.indexOf("The calls:"), readme.indexOf("## Tests"));
        for (Method m : LosersBooks.class.getDeclaredMethods()) {
            if (Modifier.isPublic(m.getModifiers())) {
                Check.due(m.getName() + " is named", calls.contains("`" + m.getName() + "`"), true);
            }
        }
    }
}
