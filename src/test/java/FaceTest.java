import java.lang.reflect.Constructor;
import java.lang.reflect.Field;
import java.lang.reflect.Method;
import java.lang.reflect.Modifier;
import java.nio.file.Files;
import java.nio.file.Path;
import java.util.ArrayList;
import java.util.List;
import java.util.Set;
import java.util.TreeSet;

/** The public face is that of the document, line for line, and nothing else can be seen. */
public final class FaceTest {
    private static final Checks CHECKS = new Checks("FaceTest");

    public static void main(String[] args) throws Exception {
        Set<String> due = faceOfDocument(Path.of(args[0], "DOC.md"));
        CHECKS.due("the number of lines of the document's face", 32, due.size());
        CHECKS.due("the face", due.toString(), faceOfClass().toString());
        CHECKS.due("final", true, Modifier.isFinal(QuotientQuoin.class.getModifiers()));
        noOtherMemberIsSeen();
        noPrivateMethodHasAPublicName();
        CHECKS.end();
    }

    private static Set<String> faceOfDocument(Path document) throws Exception {
        Set<String> lines = new TreeSet<>();
        boolean inside = false;
        for (String line : Files.readAllLines(document)) {
            if (line.startsWith("public final class")) {
                inside = true;
            } else if (inside && line.startsWith("}")) {
                inside = false;
            } else if (inside) {
                lines.add(withoutNames(line.strip()));
            }
        }
        return lines;
    }

    // The parameters of the face are all ints, so that their number is enough.
    private static String withoutNames(String line) {
        return line.replaceAll("int \\w+(?=[,)])", "int").replace(";", "");
    }

    private static Set<String> faceOfClass() throws Exception {
        Set<String> lines = new TreeSet<>();
        for (Field field : QuotientQuoin.class.getFields()) {
            lines.add("public static final int " + field.getName() + " = " + field.getInt(null));
        }
        for (Constructor<?> constructor : QuotientQuoin.class.getConstructors()) {
            lines.add("public QuotientQuoin(" + typed(constructor.getParameterTypes()) + ")");
        }
        for (Method method : QuotientQuoin.class.getDeclaredMethods()) {
            if (Modifier.isPublic(method.getModifiers())) {
                lines.add(Modifier.toString(method.getModifiers()) + " " + method.getReturnType() + " "
                        + method.getName() + "(" + typed(method.getParameterTypes()) + ")" + thrown(method));
            }
        }
        return lines;
    }

    private static String typed(Class<?>[] types) {
        List<String> names = new ArrayList<>();
        for (Class<?> type : types) {
            names.add(type.getSimpleName());
        }
        return String.join(", ", names);
    }

    private static String thrown(Method method) {
        String names = typed(method.getExceptionTypes());
        return names.isEmpty() ? "" : " throws " + names;
    }

    private static void noOtherMemberIsSeen() {
        for (Method method : QuotientQuoin.class.getDeclaredMethods()) {
            int how = method.getModifiers();
            CHECKS.due(method + " is public or private", true,
                    Modifier.isPublic(how) || Modifier.isPrivate(how));
        }
        for (Field field : QuotientQuoin.class.getDeclaredFields()) {
            int how = field.getModifiers();
            CHECKS.due(field + " is private or NONE", true,
                    Modifier.isPrivate(how) || field.getName().equals("NONE"));
            CHECKS.due(field + " is final", true, Modifier.isFinal(how));
        }
        for (Class<?> inside : QuotientQuoin.class.getDeclaredClasses()) {
            int how = inside.getModifiers();
            CHECKS.due(inside + " is hidden", false, Modifier.isPublic(how) || Modifier.isProtected(how));
            CHECKS.due(inside + " is static", true, Modifier.isStatic(how));
        }
    }

    private static void noPrivateMethodHasAPublicName() {
        Set<String> publicNames = new TreeSet<>();
        List<Method> others = new ArrayList<>();
        for (Method method : QuotientQuoin.class.getDeclaredMethods()) {
            if (Modifier.isPublic(method.getModifiers())) {
                publicNames.add(method.getName());
            } else {
                others.add(method);
            }
        }
        for (Class<?> inside : QuotientQuoin.class.getDeclaredClasses()) {
            others.addAll(List.of(inside.getDeclaredMethods()));
        }
        for (Method method : others) {
            CHECKS.due(method + " has a public name", false, publicNames.contains(method.getName()));
        }
    }
}
