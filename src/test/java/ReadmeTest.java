import java.lang.reflect.Method;
import java.lang.reflect.Modifier;
import java.nio.file.Files;
import java.nio.file.Path;
import java.util.List;
import java.util.Set;
import java.util.TreeSet;
import java.util.regex.Matcher;
import java.util.regex.Pattern;

/** README.md tells the truth: its example answers as its comments say, and it names every call. */
public final class ReadmeTest {
    private static final Checks CHECKS = new Checks("ReadmeTest");
    private static final Pattern LINE =
            Pattern.compile("quoin\\.(\\w+)\\(([-0-9, ]*)\\);\\s*// (throws \\w+|-?\\w+).*");

    public static void main(String[] args) throws Exception {
        List<String> lines = Files.readAllLines(Path.of("README.md"));
        QuotientQuoin quoin = new QuotientQuoin();
        int examples = 0;
        for (String line : lines) {
            Matcher matcher = LINE.matcher(line);
            if (matcher.matches()) {
                examples++;
                Calls.Call call = new Calls.Call(matcher.group(1), numbers(matcher.group(2)));
                CHECKS.due(line, matcher.group(3), answerWithoutPackage(quoin, call));
            } else {
                CHECKS.due("not understood: " + line, false, line.startsWith("quoin."));
            }
        }
        CHECKS.due("there is an example", true, examples > 0);
        CHECKS.due("calls named in the table", faceCalls().toString(), namedIn(lines).toString());
        CHECKS.end();
    }

    private static int[] numbers(String list) {
        String[] parts = list.isEmpty() ? new String[0] : list.split(", *");
        int[] numbers = new int[parts.length];
        for (int i = 0; i < parts.length; i++) {
            numbers[i] = Integer.parseInt(parts[i]);
        }
        return numbers;
    }

    private static String answerWithoutPackage(QuotientQuoin quoin, Calls.Call call) {
        return Calls.answer(quoin, call).toString().replace("throws java.lang.", "throws ");
    }

    private static Set<String> faceCalls() {
        Set<String> names = new TreeSet<>();
        for (Method method : QuotientQuoin.class.getDeclaredMethods()) {
            if (Modifier.isPublic(method.getModifiers())) {
                names.add(method.getName());
            }
        }
        return names;
    }

    private static Set<String> namedIn(List<String> lines) {
        Set<String> names = new TreeSet<>();
        for (String line : lines) {
            Matcher name = Pattern.compile("`(\\w+)`").matcher(line.startsWith("|") ? line : "");
            while (name.find()) {
                names.add(name.group(1));
            }
        }
        return names;
    }
}
