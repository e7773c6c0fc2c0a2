import java.io.IOException;
import java.lang.reflect.Constructor;
import java.lang.reflect.Field;
import java.lang.reflect.Method;
import java.lang.reflect.Modifier;
import java.nio.charset.StandardCharsets;
import java.nio.file.Files;
import java.nio.file.Path;
import java.util.Arrays;
import java.util.Set;
import java.util.TreeSet;
import java.util.regex.Matcher;
import java.util.regex.Pattern;
import java.util.stream.Collectors;

/** The public face, as the document writes it, and those rules of LANGUAGE.md that can be seen from outside. */
final class FaceTest {
    private static final Path SOURCE = Path.of("src/main/java/DrumOfGuilt.java");
    private static final Path DOCUMENT = Path.of("../shared/DOC.md");

    public static void main(String[] args) throws IOException {
        constants();
        face();
        membersInside();
        fields();
        words();
        methodsStayShort();
        Checks.finish("FaceTest");
    }

    private static void constants() {
        Checks.due("NONE", DrumOfGuilt.NONE, -1);
        Checks.due("BAD", DrumOfGuilt.BAD, -2);
        Checks.due("STATE", DrumOfGuilt.STATE, -3);
        Checks.due("FULL", DrumOfGuilt.FULL, -4);
        Checks.due("NO", DrumOfGuilt.NO, -4611686018427387904L);
    }

    private static void same(String call, Object got, Object want) {
        Checks.due(call + ": " + got + ", due is " + want, got.equals(want) ? 1 : 0, 1);
    }

    /** A method as the document writes it, but for the names of what it takes. */
    private static String written(Method method) {
        String takes = Arrays.stream(method.getParameterTypes()).map(Class::getName).collect(Collectors.joining(", "));
        return method.getReturnType().getName() + " " + method.getName() + "(" + takes + ")";
    }

    private static void face() throws IOException {
        Set<String> due = new TreeSet<>();
        Matcher lines = Pattern.compile("public (int|long) (\\w+)\\((.*)\\);").matcher(Files.readString(DOCUMENT));
        while (lines.find()) {
            due.add(lines.group(1) + " " + lines.group(2) + "(" + lines.group(3).replaceAll("int \\w+", "int") + ")");
        }
        Set<String> visible = new TreeSet<>();
        Set<String> publicNames = new TreeSet<>();
        for (Method method : DrumOfGuilt.class.getDeclaredMethods()) {
            if (!Modifier.isPrivate(method.getModifiers())) {
                visible.add(written(method));
                publicNames.add(method.getName());
                Checks.due(method + " is public and no more", method.getModifiers(), Modifier.PUBLIC);
            }
        }
        Checks.due("the document's methods", due.size(), 38);
        same("the methods", visible, due);
        for (Method method : DrumOfGuilt.class.getDeclaredMethods()) {
            boolean hidden = Modifier.isPrivate(method.getModifiers());
            Checks.due("private, of a public name: " + method, hidden && publicNames.contains(method.getName()) ? 1 : 0, 0);
        }
        Checks.due("public and final", DrumOfGuilt.class.getModifiers(), Modifier.PUBLIC | Modifier.FINAL);
        Constructor<?>[] constructors = DrumOfGuilt.class.getDeclaredConstructors();
        Checks.due("constructors", constructors.length, 1);
        Checks.due("the constructor is public", constructors[0].getModifiers(), Modifier.PUBLIC);
        Checks.due("the constructor takes nothing", constructors[0].getParameterCount(), 0);
    }

    private static void membersInside() {
        Class<?>[] inside = DrumOfGuilt.class.getDeclaredClasses();
        Checks.due("12 classes at most", inside.length + 1 <= 12 ? 1 : 0, 1);
        for (Class<?> one : inside) {
            boolean isStatic = Modifier.isStatic(one.getModifiers());
            boolean isHidden = !Modifier.isPublic(one.getModifiers()) && !Modifier.isProtected(one.getModifiers());
            Checks.due(one + " is static, private or package-visible", isStatic && isHidden ? 1 : 0, 1);
            for (Method method : one.getDeclaredMethods()) {
                Checks.due(method + " takes seven at most", method.getParameterCount() <= 7 ? 1 : 0, 1);
            }
        }
    }

    private static void fields() {
        Set<String> visible = new TreeSet<>();
        for (Field field : DrumOfGuilt.class.getDeclaredFields()) {
            if (!Modifier.isPrivate(field.getModifiers())) {
                visible.add(field.getName());
            }
        }
        same("the constants", visible, new TreeSet<>(Set.of("NONE", "BAD", "STATE", "FULL", "NO")));
        fieldsOf(DrumOfGuilt.class);
        for (Class<?> one : DrumOfGuilt.class.getDeclaredClasses()) {
            fieldsOf(one);
        }
    }

    private static void fieldsOf(Class<?> one) {
        int kept = 0;
        Set<String> types = Set.of("int", "long", "boolean", "char", "java.lang.String", "[I", "[J", "[B", "[C");
        for (Field field : one.getDeclaredFields()) {
            if (Modifier.isStatic(field.getModifiers())) {
                Checks.due(field + " is final", Modifier.isFinal(field.getModifiers()) ? 1 : 0, 1);
                Checks.due(field + " may be static", types.contains(field.getType().getName()) ? 1 : 0, 1);
            } else {
                kept++;
            }
        }
        Checks.due(one + " has some twenty fields at most", kept <= 20 ? 1 : 0, 1);
    }

    /** The source without comments, texts and signs. */
    private static String code() throws IOException {
        String source = Files.readString(SOURCE, StandardCharsets.US_ASCII);
        return source.replaceAll("(?s)/\\*.*?\\*/", "").replaceAll("//.*", "").replaceAll("\"[^\"\n]*\"", "TEXT")
            .replaceAll("'[^'\n]+'", "SIGN");
    }

    private static void words() throws IOException {
        String code = code();
        String[] forbidden = {"throw", "throws", "try", "catch", "finally", "synchronized", "assert", "import",
            "package", "protected", "native", "volatile", "transient", "var", "float", "double"};
        for (String word : forbidden) {
            Checks.due("the word " + word, Pattern.compile("\\b" + word + "\\b").matcher(code).find() ? 1 : 0, 0);
        }
        Checks.due("no lambda, no reference to a method", code.contains("->") || code.contains("::") ? 1 : 0, 0);
        Checks.due("no text joined by +", code.matches("(?s).*(TEXT\\s*\\+|\\+\\s*TEXT).*") ? 1 : 0, 0);
        Matcher library = Pattern.compile("\\b(System|Math|Integer|Long|Arrays|String|Object)\\.\\w+").matcher(code);
        Set<String> allowed = Set.of("System.arraycopy", "Math.max", "Math.min", "Integer.bitCount");
        while (library.find()) {
            Checks.due("of the library: " + library.group(), allowed.contains(library.group()) ? 1 : 0, 1);
        }
    }

    private static void methodsStayShort() throws IOException {
        int began = -1;
        String[] lines = Files.readString(SOURCE).split("\n");
        for (int i = 0; i < lines.length; i++) {
            if (lines[i].matches("( {4}| {8})\\S.*\\) \\{")) {
                began = i;
            } else if (began >= 0 && lines[i].matches("( {4}| {8})\\}") && i > began) {
                Checks.due(lines[began] + " stays short", i - began <= 60 ? 1 : 0, 1);
                began = -1;
            }
        }
    }
}
