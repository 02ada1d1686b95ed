import java.io.IOException;
import java.lang.reflect.Method;
import java.nio.file.Files;
import java.nio.file.Path;
import java.util.regex.Matcher;
import java.util.regex.Pattern;

/** README.md: its calls answer what they say, and its table names each call of the face. */
public final class ReadmeTest {
    private static final Due DUE = new Due();
    private static final Pattern CALL = Pattern.compile("house\\.(\\w+)\\((.*)\\); *// (throws )?([^\\s:]+)(:.*)?");

    private ReadmeTest() {
    }

    public static void main(String[] args) throws IOException {
        String readme = Files.readString(Path.of("README.md"));
        calls(readme.substring(readme.indexOf("```java"), readme.lastIndexOf("```")));
        for (Method method : new Calls(Viewhouse.class).all()) {
            DUE.is("a row with " + method.getName(), true,
                    () -> Pattern.compile("(?m)^\\|.*`" + method.getName() + "`.*\\|$").matcher(readme).find());
        }
        DUE.end();
    }

    private static void calls(String example) {
        Calls face = new Calls(Viewhouse.class);
        Viewhouse house = new Viewhouse();
        for (String line : example.lines().filter(one -> one.startsWith("house.")).toList()) {
            Matcher call = CALL.matcher(line);
            DUE.is("a call and its answer: " + line, true, call::matches);
            DUE.is(line, call.group(4), () -> told(face.made(call.group(1), house, arguments(call.group(2)))));
        }
    }

    private static Object[] arguments(String told) {
        if (told.isEmpty()) {
            return new Object[0];
        }
        String[] words = told.split(", ");
        Object[] args = new Object[words.length];
        for (int i = 0; i < args.length; i++) {
            args[i] = words[i].startsWith("'") ? (Object) words[i].charAt(1) : (Object) Integer.valueOf(words[i]);
        }
        return args;
    }

    private static String told(Object answer) {
        return answer instanceof Class ? ((Class<?>) answer).getSimpleName() : String.valueOf(answer);
    }
}
