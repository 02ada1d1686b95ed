import java.io.IOException;
import java.lang.reflect.Constructor;
import java.lang.reflect.Field;
import java.lang.reflect.Method;
import java.lang.reflect.Modifier;
import java.nio.charset.StandardCharsets;
import java.nio.file.Files;
import java.nio.file.Path;
import java.util.Arrays;
import java.util.Set;
import java.util.TreeSet;
import java.util.regex.Matcher;
import java.util.regex.Pattern;

/** The face that the document tells, read from ../shared/DOC.md, and rules of LANGUAGE.md that a text can tell. */
public final class FaceTest {
    private static final Due DUE = new Due();
    private static final Path DOC = Path.of("../shared/DOC.md");
    /** The exceptions of rule 6. */
    private static final String THROWN = "((IllegalState|IllegalArgument|IndexOutOfBounds|Arithmetic|UnsupportedOperation"
            + "|Runtime)Exception|NoSuchElementException)";
    private static final Path SOURCE = Path.of("src/main/java/Viewhouse.java");

    public static void main(String[] args) throws IOException {
        face();
        text();
        DUE.end();
    }

    private static void face() throws IOException {
        String doc = Files.readString(DOC);
        Matcher face = Pattern.compile("    public ([^;]*);").matcher(doc.substring(0, doc.indexOf("## Terms")));
        Set<String> due = new TreeSet<>();
        while (face.find()) {
            due.add(face.group(1).replaceAll("(int|long|char|boolean) \\w+([,)])", "$1$2"));
        }
        Set<String> open = new TreeSet<>();
        Set<String> names = new TreeSet<>();
        for (Constructor<?> made : Viewhouse.class.getDeclaredConstructors()) {
            open.add("Viewhouse(" + types(made.getParameterTypes()) + ")" + thrown(made.getExceptionTypes()));
        }
        for (Method method : Viewhouse.class.getDeclaredMethods()) {
            if (!Modifier.isPrivate(method.getModifiers())) {
                names.add(method.getName());
                open.add(method.getReturnType().getSimpleName() + " " + method.getName() + "("
                        + types(method.getParameterTypes()) + ")" + thrown(method.getExceptionTypes()));
            }
        }
        DUE.is("the face", due, () -> open);
        DUE.is("the face has all promises", 46, open::size);
        DUE.is("public and final", Modifier.PUBLIC | Modifier.FINAL, () -> Viewhouse.class.getModifiers());
        for (Field field : Viewhouse.class.getDeclaredFields()) {
            DUE.is("private: " + field, true, () -> Modifier.isPrivate(field.getModifiers()));
        }
        hidden(Viewhouse.class, names);
        for (Class<?> inside : Viewhouse.class.getDeclaredClasses()) {
            hidden(inside, names);
            DUE.is("not open: " + inside, 0, () -> inside.getModifiers() & (Modifier.PUBLIC | Modifier.PROTECTED));
        }
    }

    private static void hidden(Class<?> of, Set<String> names) {
        for (Method method : of.getDeclaredMethods()) {
            if (Modifier.isPrivate(method.getModifiers())) {
                DUE.is("a name of its own: " + method, false, () -> names.contains(method.getName()));
            }
            DUE.is("seven parameters at most: " + method, true, () -> method.getParameterCount() <= 7);
        }
    }

    private static String types(Class<?>[] types) {
        return String.join(", ", Arrays.stream(types).map(Class::getSimpleName).toList());
    }

    private static String thrown(Class<?>[] types) {
        return types.length == 0 ? "" : " throws " + types(types);
    }

    private static void text() throws IOException {
        String source = new String(Files.readAllBytes(SOURCE), StandardCharsets.ISO_8859_1);
        DUE.is("signs 1 to 127", true, () -> source.chars().allMatch(sign -> sign > 0 && sign < 128));
        String code = source.replaceAll("(?s)/\\*.*?\\*/|//[^\n]*", "");
        String[] ruledOut = {"::", "(?m)^(?!.*\\b(case|default)\\b).*->", "\\bfinally\\b", "\\btry *\\(", "\\bassert\\b", "\\bsynchronized\\b", "\\bstatic *\\{",
            "\\bpackage\\b", "\\bMath\\.\\w+Exact\\b", "\\bhashCode *\\(", "\\btoString *\\(\\) *\\{",
            "\\bimport (?!java\\.util\\.(NoSuchElementException|ArrayList|List|Arrays|Iterator);)",
            "\\bcatch *\\((?!" + THROWN + " )", "\\bthrow (?!new " + THROWN + "\\()",
            "\\b(System\\.(?!arraycopy)|Thread|Random|Object\\b|Class\\b|Exception\\b|Throwable|Error\\b)"};
        for (String rule : ruledOut) {
            DUE.is("ruled out: " + rule, false, () -> Pattern.compile(rule).matcher(code).find());
        }
    }
}
