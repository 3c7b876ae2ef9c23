import java.io.IOException;
import java.lang.reflect.Constructor;
import java.lang.reflect.Field;
import java.lang.reflect.Method;
import java.lang.reflect.Modifier;
import java.nio.file.Files;
import java.nio.file.Path;
import java.util.Arrays;
import java.util.List;
import java.util.Set;
import java.util.TreeSet;
import java.util.regex.Matcher;
import java.util.regex.Pattern;

/** The class has the document's face and no other, and keeps to what can be checked of LANGUAGE.md. */
public final class LanguageTests {
    private static final Path SOURCE = Path.of("src/main/java/RidgeBooks.java");

    private static final Set<String> FACE = new TreeSet<>(List.of(
            "int print()", "int row(int, int, int)", "int cell(int, int, int, int)", "int thin(int, int)",
            "int mark(int, int, int)", "int within(int)", "int pairs(int, int, int, int, int)",
            "int best(int, int, int)", "int bound(int, int)", "int seek(int, int)",
            "long chance(int, int, int)", "int join(int, int)", "int count(int)", "int status()"));

    private static final String FORBIDDEN = "\\b(throw|try|catch|synchronized|assert|import|package|Exception"
            + "|System\\.(?!arraycopy)\\w+|Random|Thread|\\w+Exact|toString|hashCode|equals)\\b|->|::|@";

    private static int wrong = 0;

    public static void main(String[] args) throws IOException {
        checkFace();
        for (Class<?> inside : RidgeBooks.class.getDeclaredClasses()) {
            checkInside(inside);
        }
        checkText(Files.readString(SOURCE));
        System.out.println(wrong == 0 ? "the class keeps to its face and language" : wrong + " breaches");
        if (wrong != 0) {
            System.exit(1);
        }
    }

    private static void expect(boolean holds, String breach) {
        if (!holds) {
            wrong++;
            System.out.println(breach);
        }
    }

    private static void checkFace() {
        Class<?> face = RidgeBooks.class;
        expect(Modifier.isPublic(face.getModifiers()), "the class is not public");
        expect(Modifier.isFinal(face.getModifiers()), "the class is not final");
        Set<String> open = new TreeSet<>();
        Set<String> hidden = new TreeSet<>();
        for (Method method : face.getDeclaredMethods()) {
            if (Modifier.isPrivate(method.getModifiers())) {
                hidden.add(method.getName());
            } else {
                open.add(told(method));
            }
        }
        expect(open.equals(FACE), "the methods that are not private: " + open);
        for (String method : FACE) {
            String name = method.replaceAll(".* |\\(.*", "");
            expect(!hidden.contains(name), "a private method bears the name of " + method);
        }
        for (Field field : face.getDeclaredFields()) {
            boolean isConstant = field.getName().equals("NONE");
            int wanted = Modifier.PUBLIC | Modifier.STATIC | Modifier.FINAL;
            boolean isOpen = (field.getModifiers() & wanted) == wanted;
            expect(isConstant ? isOpen : Modifier.isPrivate(field.getModifiers()), "the field " + field);
        }
        Constructor<?>[] constructors = face.getDeclaredConstructors();
        boolean isPlain = constructors.length == 1 && constructors[0].getParameterCount() == 0;
        expect(isPlain && Modifier.isPublic(constructors[0].getModifiers()), "the constructors");
    }

    private static String told(Method method) {
        String parameters = Arrays.toString(method.getParameterTypes()).replace("[", "(").replace("]", ")");
        return method.getReturnType() + " " + method.getName() + parameters;
    }

    private static void checkInside(Class<?> inside) {
        expect(Modifier.isStatic(inside.getModifiers()), inside + " is not static");
        for (Field field : inside.getDeclaredFields()) {
            boolean isStatic = Modifier.isStatic(field.getModifiers());
            expect(!isStatic || Modifier.isFinal(field.getModifiers()), "static, not final: " + field);
        }
        for (Method method : inside.getDeclaredMethods()) {
            expect(method.getParameterCount() <= 7, "too many parameters: " + method);
            for (String open : FACE) {
                String name = open.replaceAll(".* |\\(.*", "");
                expect(!method.getName().equals(name), "a method inside bears the name of " + open);
            }
        }
    }

    private static void checkText(String text) {
        String code = text.replaceAll("(?s)/\\*.*?\\*/", "").replaceAll("//[^\n]*", "");
        Matcher forbidden = Pattern.compile(FORBIDDEN).matcher(code);
        while (forbidden.find()) {
            expect(false, "the program says '" + forbidden.group() + "'");
        }
        Matcher method = Pattern.compile("(?s)\n( {4}| {8})\\w[^\n;=]*\\) \\{\n.*?\n\\1\\}").matcher(code);
        int methods = 0;
        while (method.find()) {
            methods++;
            expect(method.group().lines().count() <= 60, "a long method: " + method.group());
        }
        expect(methods > FACE.size(), "the methods were not found in the text");
    }
}
