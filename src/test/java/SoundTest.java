import java.io.IOException;
import java.net.URL;
import java.net.URLClassLoader;
import java.nio.file.Files;
import java.nio.file.Path;
import java.util.ArrayList;
import java.util.Comparator;
import java.util.List;
import java.util.stream.Stream;
import javax.tools.JavaCompiler;
import javax.tools.ToolProvider;

/**
 * Promise 46 once more: no call of a sound class can make isSound() say no, so here one line of the source is broken
 * at a time, and isSound() has to tell. A source that has few of these lines is another one, and is left alone.
 */
public final class SoundTest {
    private static final String THINGS = "put 0 0 3 1; put 0 1 3 0; put 0 2 1 2; put 0 3 2 1; put 0 4 9 9; put 0 5 8 8; put 0 6 2 5;";
    private static final String PARTS = THINGS + "part 4 0 2 7; part 5 4 1 5;";
    private static final String TWO_MAPS = "enter 2 9 4 1; enter 2 3 6 2; enter 3 9 4 1; enter 3 3 6 2;";

    /** What is broken, the line, what stands in its place, and calls that bring it out. */
    private static final String[][] BROKEN = {
        {"sorting, things alike in the order not as they stood", "rank(j - 1, way) > rank(j, way)", "rank(j - 1, way) >= rank(j, way)", THINGS},
        {"sorting, falling ways rising", "FALLING_MARKS ? -rank : rank", "FALLING_MARKS ? rank : rank", THINGS},
        {"sorting, by marks where by keys", "FALLING_KEYS ? keyIn(place)", "FALLING_KEYS ? markIn(place)", THINGS},
        {"sorting, the last thing left where it is", "i < first + many; i++", "i < first + many - 1; i++", THINGS},
        {"sorting, things lost", "            marks[j] = mark;\n", "", THINGS},
        {"turning, the things in the middle", "i < many / 2; i++", "i < many / 2 - 1; i++", THINGS},
        {"turning round, by one more", "Math.floorMod(by, many)", "Math.floorMod(by + 1, many)", THINGS},
        {"turning round, not back", "Math.floorMod(by, many)", "Math.floorMod(Math.abs(by), many)", THINGS},
        {"searching, a key that is there", "keyOf(less) < soughtKey", "keyOf(less) <= soughtKey", THINGS},
        {"searching, how many keys are less", "isThere ? FOUND : -1 - less", "isThere ? FOUND : -2 - less", THINGS},
        {"lists that are the same, their hashes", "int hash = 1;", "int hash = isOpen ? 1 : 2;", THINGS + "fixed 4 0;"},
        {"lists that are not the same, at some place", "count() == other.count() && standsAt(0, other)", "count() == other.count()",
            "put 0 0 1 1; put 1 0 2 1;"},
        {"lists that are the same", "count() == other.count() && standsAt(0, other)", "this == other", "put 0 0 1 1; put 1 0 1 1;"},
        {"lists, one longer than the other", "count() == other.count() && standsAt(0, other)", "standsAt(0, other)", "put 1 0 1 1;"},
        {"maps that are the same, their hashes", "hash += numberOf(i) ^ hashOf(i);", "hash = 31 * hash + (numberOf(i) ^ hashOf(i));", TWO_MAPS},
        {"maps, one with more numbers than the other", "!isAlike(i, other, place)) {\n                    return false;\n                }\n"
            + "            }\n            return count() == other.count();", "!isAlike(i, other, place)) {\n                    return false;\n"
            + "                }\n            }\n            return true;", "enter 2 9 4 1;"},
        {"a part, what it tells", "store.keyIn(first() + place)", "store.keyIn(place)", PARTS},
        {"a part, marks that it tells", "store.markIn(first() + place)", "store.markIn(place)", PARTS},
        {"a part that is too long", "base.first() + from, to - from)", "base.first() + from, to - from + 1)", "put 0 0 1 1; part 4 0 0 1;"},
        {"a part that begins ahead of its list", "base.first() + from, to - from)", "base.first() + from - 1, to - from)", THINGS + "part 4 0 0 2;"},
        {"a part longer than that of which it is one", "part.count += more;", "part.count += more; break;", PARTS + "put 5 0 1 1;"},
        {"a part that was not let go", "slots[s] = null;", "", PARTS + "wipe 0;"},
        {"keys, their order", "store.numberIn(first() + place)", "store.numberIn(kind == KEYS ? count() - 1 - place : place)",
            TWO_MAPS + "keys 4 2;"},
        {"values, what they tell", "store.keyIn(first() + place)", "store.keyIn(first() + place) + (kind == VALUES ? 1 : 0)", TWO_MAPS + "values 4 2;"},
        {"keys and values, how many", "return part == null ? store.count : part.count;",
            "return part == null ? store.count - (kind == KEYS ? 1 : 0) : part.count;", TWO_MAPS + "keys 4 3;"},
        {"map 3, its order", "while (isRising && ", "while (!isRising && ", TWO_MAPS},
        {"a number that is there twice", "if (numberIn(i) == number) {", "if (numberIn(i) == number && i > 0) {", "enter 2 9 4 1; enter 2 9 4 1;"},
    };

    private SoundTest() {
    }

    public static void main(String[] args) throws IOException, ReflectiveOperationException {
        String source = Files.readString(Path.of(args.length > 0 ? args[0] : "src/main/java/Viewhouse.java"));
        int there = 0;
        for (String[] row : BROKEN) {
            there += source.contains(row[1]) ? 1 : 0;
        }
        if (2 * there < BROKEN.length || ToolProvider.getSystemJavaCompiler() == null) {
            System.out.println("nothing is broken: this is another source, or there is no compiler");
            return;
        }
        int wrong = 0;
        for (String[] row : BROKEN) {
            String told = told(source, row);
            if (!told.isEmpty()) {
                wrong++;
                System.out.println("46 isSound: " + row[0] + ": " + told);
            }
        }
        System.out.println(wrong == 0 ? BROKEN.length + " broken lines are told" : wrong + " are not as due");
        if (wrong != 0) {
            System.exit(1);
        }
    }

    private static String told(String source, String[] row) throws IOException, ReflectiveOperationException {
        if (!isSound(Viewhouse.class, row[3])) {
            return "says no of what is not broken";
        }
        if (!source.contains(row[1])) {
            return "there is no such line to break";
        }
        return isSound(source.replace(row[1], row[2]), row[3]) ? "says yes" : "";
    }

    private static boolean isSound(String source, String calls) throws IOException, ReflectiveOperationException {
        Path folder = Files.createTempDirectory("sound");
        try {
            Path file = Files.writeString(folder.resolve("Viewhouse.java"), source);
            JavaCompiler javac = ToolProvider.getSystemJavaCompiler();
            if (javac.run(null, null, null, "-nowarn", "-d", folder.toString(), file.toString()) != 0) {
                throw new IllegalStateException("the broken source does not compile");
            }
            try (URLClassLoader loader = new URLClassLoader(new URL[] {folder.toUri().toURL()}, ClassLoader.getPlatformClassLoader())) {
                return isSound(loader.loadClass("Viewhouse"), calls);
            }
        } finally {
            remove(folder);
        }
    }

    private static boolean isSound(Class<?> type, String calls) throws ReflectiveOperationException {
        Object house = type.getConstructor().newInstance();
        for (String call : calls.split(";")) {
            String[] words = call.strip().split(" ");
            List<Class<?>> types = new ArrayList<>();
            List<Object> args = new ArrayList<>();
            for (int i = 1; i < words.length; i++) {
                types.add(int.class);
                args.add(Integer.parseInt(words[i]));
            }
            type.getMethod(words[0], types.toArray(new Class<?>[0])).invoke(house, args.toArray());
        }
        return (Boolean) type.getMethod("isSound").invoke(house);
    }

    private static void remove(Path folder) throws IOException {
        List<Path> all;
        try (Stream<Path> walk = Files.walk(folder)) {
            all = walk.sorted(Comparator.reverseOrder()).toList();
        }
        for (Path path : all) {
            Files.delete(path);
        }
    }
}
