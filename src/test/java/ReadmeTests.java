import java.io.IOException;
import java.lang.reflect.Method;
import java.lang.reflect.Modifier;
import java.nio.file.Files;
import java.nio.file.Path;
import java.util.Set;
import java.util.StringJoiner;
import java.util.TreeSet;
import java.util.regex.Matcher;
import java.util.regex.Pattern;

/** README.md tells no answer that the program does not give, and leaves no call out. */
public final class ReadmeTests {
    private static final Path README = Path.of("README.md");
    private static final Pattern EXAMPLE = Pattern.compile("\nbook\\.(\\w+\\(.*?\\)); +// (-?\\d+)(?=[:\n])");
    private static final Pattern TABLE_ROW = Pattern.compile("\n\\| `((?:int|long) \\w+\\(.*?\\))` \\| ");
    private static final Pattern BINARY = Pattern.compile("0b([01]+)");

    public static void main(String[] args) throws IOException {
        String text = Files.readString(README);
        exampleAnswers(text);
        if (!face().equals(callsOfTable(text))) {
            System.out.println("the calls are " + face() + ", README.md has " + callsOfTable(text));
            System.exit(1);
        }
        Sentence.end();
    }

    private static void exampleAnswers(String text) {
        Sentence example = Sentence.says("README.md's example", "A book of finger prints");
        Matcher line = EXAMPLE.matcher(text);
        while (line.find()) {
            String call = BINARY.matcher(line.group(1))
                    .replaceAll(bits -> String.valueOf(Integer.parseInt(bits.group(1), 2)));
            example.due(call, Long.parseLong(line.group(2)));
        }
        long lines = text.lines().filter(each -> each.startsWith("book.")).count();
        if (lines == 0 || example.callsMade() != lines) {
            System.out.println(lines + " lines of an example, but " + example.callsMade() + " were understood");
            System.exit(1);
        }
    }

    private static Set<String> face() {
        Set<String> calls = new TreeSet<>();
        for (Method method : RidgeBooks.class.getDeclaredMethods()) {
            if (Modifier.isPublic(method.getModifiers())) {
                StringJoiner types = new StringJoiner(", ", "(", ")");
                for (Class<?> type : method.getParameterTypes()) {
                    types.add(type.getName());
                }
                calls.add(method.getReturnType() + " " + method.getName() + types);
            }
        }
        return calls;
    }

    private static Set<String> callsOfTable(String text) {
        Set<String> calls = new TreeSet<>();
        Matcher row = TABLE_ROW.matcher(text);
        while (row.find()) {
            calls.add(row.group(1).replaceAll("int \\w+(?=[,)])", "int"));
        }
        return calls;
    }
}
