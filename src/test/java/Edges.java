import java.io.IOException;
import java.nio.file.Files;
import java.nio.file.Path;
import java.util.Map;
import java.util.NoSuchElementException;
import java.util.Set;
import java.util.TreeSet;
import java.util.regex.Matcher;
import java.util.regex.Pattern;

/**
 * Tests of single sentences. Each has a name, "17 put: ..." after its promise or "term: ...", a new house, and calls
 * told as a text, parted by ';' : "put 0 0 5 1 = 1; size 4 = !NoSuch; none 4". Behind " = " stands the answer that is
 * due, or ! and the exception. A refused call is to leave checksum() as it was; isSound() is to be true at the end.
 *
 * Beside the calls of the face there are: "kinds", what all slots hold; "things s", a list's keys and marks;
 * "numbers s"; "hashes s", what walk() adds one by one; "new", another house, which the calls behind it are made of.
 */
final class Edges {
    static final String NO_SLOTS = "-1 12 -2147483648 2147483647";
    static final String NO_PANE_SLOTS = "-1 0 1 2 3 12 -2147483648 2147483647";

    /** 0: 5/1 3/2 8/0, 1: empty, 2: 9 has 4/1 and 3 has 6/2, 3: empty; one pane of each kind. */
    static final String KINDS = "put 0 0 5 1; put 0 1 3 2; put 0 2 8 0; enter 2 9 4 1; enter 2 3 6 2; part 4 0 1 3;"
            + "fixed 5 0; copies 6 2 4 1; alone 7 5 1; none 8; keys 9 2; values 10 2; fixed 11 2;";
    static final String NO_LISTS = "2 3 9 10 11";
    static final String NO_ROWS = "2 3 9 11";
    static final String NO_MAPS = "0 1 4 5 6 7 8 9 10";
    static final String NO_NUMBERS = "0 1 4 5 6 7 8 10";
    static final String NO_KEYS = "0 1 2 3 4 5 6 7 8 10 11";
    static final String SHUT_LISTS = "5 6 7 8";

    /** Panes that cannot be changed, and in which nothing is that could be; list 1 is empty, too. */
    static final String HOLLOW = "part 4 1 0 0; fixed 5 1; copies 6 0 4 1; fixed 7 4; none 8; fixed 9 2; keys 10 9;"
            + "values 11 9;";
    static final String SHUT_HOLLOW_LISTS = "5 6 7 8";

    static final String THREE = "put 0 0 5 1; put 0 1 3 2; put 0 2 8 0;";
    /** 24 things 7/7 in list 0. */
    static final String FULL = "copies 11 24 7 7; putAll 0 0 11; none 11;";

    private static final int MOST_CALLS = 512;
    private static final Map<String, Class<? extends RuntimeException>> EXCEPTIONS = Map.of(
            "Index", IndexOutOfBoundsException.class, "NoSuch", NoSuchElementException.class,
            "Shut", UnsupportedOperationException.class, "Argument", IllegalArgumentException.class,
            "State", IllegalStateException.class, "Arithmetic", ArithmeticException.class);

    private final Calls face = new Calls(Viewhouse.class);
    private final Set<String> names = new TreeSet<>();
    private final Set<String> refused = new TreeSet<>();
    private int wrong;
    private Viewhouse house;
    /** All calls that the house has had: what it answers after the 512th one is free. */
    private int calls;

    /** Numbers first to last with a thing each, 1/1, in a map. */
    static String numbers(int slot, int first, int last) {
        StringBuilder calls = new StringBuilder();
        for (int number = first; number <= last; number++) {
            calls.append("enter ").append(slot).append(' ').append(number).append(" 1 1;");
        }
        return calls.toString();
    }

    void test(String name, String told) {
        if (!names.add(name)) {
            fail(name, "two tests have this name");
            return;
        }
        house = new Viewhouse();
        calls = 0;
        for (String call : told.split(";")) {
            if (!call.isBlank() && !isMade(name, call.strip())) {
                return;
            }
        }
        if (calls > MOST_CALLS) {
            fail(name, "makes " + calls + " calls of one house");
        }
        if (calls < MOST_CALLS && !house.isSound()) {
            fail(name, "isSound() then is false");
        }
    }

    /** A test for each of some numbers, which stands in place of #. */
    void each(String name, String some, String told) {
        for (String one : some.split(" ")) {
            test(name + " (" + one + ")", told.replace("#", one));
        }
    }

    private void fail(String name, String what) {
        wrong++;
        System.out.println(name + ": " + what);
    }

    private boolean isMade(String name, String call) {
        String[] sides = call.split(" = ?", 2);
        String due = sides.length == 2 ? sides[1].strip() : null;
        boolean isRefused = due != null && due.startsWith("!");
        calls += isRefused ? 2 : 0;
        long before = isRefused ? house.checksum() : 0;
        Object got = answer(sides[0].strip().split(" +"), due);
        String told = got instanceof Class ? ((Class<?>) got).getName() : String.valueOf(got);
        if (due == null && got instanceof Class) {
            fail(name, call + " throws " + told);
            return false;
        }
        if (isRefused) {
            Class<?> exception = EXCEPTIONS.get(due.substring(1));
            if (name.split(":")[0].endsWith(" " + call.split(" ")[0])) {
                refused.add(name.split(":")[0] + " " + exception.getSimpleName());
            }
            due = exception.getName();
            if (house.checksum() != before) {
                fail(name, call + " has changed something");
                return false;
            }
        }
        if (due != null && !due.equals(told)) {
            fail(name, call + " answered " + told);
            return false;
        }
        return true;
    }

    private Object answer(String[] words, String due) {
        switch (words[0]) {
            case "new":
                house = new Viewhouse();
                calls = 0;
                return "";
            case "kinds":
                calls += 12;
                return Houses.kinds(house);
            case "things":
                calls += 1 + 3 * due.split(" ").length;
                return Houses.things(house, Integer.parseInt(words[1])).strip();
            case "numbers":
                calls += 1 + 2 * due.split(" ").length;
                return Houses.numbers(house, Integer.parseInt(words[1])).strip();
            case "hashes":
                calls++;
                return hashes(Integer.parseInt(words[1]), due);
            default:
                calls++;
                return made(words);
        }
    }

    /** Returns what is due if walk() tells just that. */
    private String hashes(int slot, String due) {
        long sum = 7;
        for (String one : due.split(" ")) {
            sum = one.isEmpty() ? sum : 31 * sum + Integer.parseInt(one);
        }
        long walked = house.walk(slot, false);
        return walked == sum ? due : "walk() " + walked;
    }

    private Object made(String[] words) {
        Class<?>[] types = face.named(words[0]).getParameterTypes();
        if (types.length != words.length - 1) {
            throw new IllegalArgumentException(String.join(" ", words));
        }
        Object[] args = new Object[types.length];
        for (int i = 0; i < args.length; i++) {
            args[i] = argument(types[i], words[i + 1]);
        }
        return face.made(words[0], house, args);
    }

    private static Object argument(Class<?> type, String word) {
        if (type == boolean.class) {
            return word.equals("true");
        }
        if (type == char.class) {
            return word.length() == 1 ? word.charAt(0) : (char) Integer.parseInt(word.substring(1));
        }
        return Integer.parseInt(word);
    }

    /** Each exception of each promise of the document is due in a test that bears its name. */
    private void lookForEachException() throws IOException {
        String doc = Files.readString(Path.of("../shared/DOC.md"));
        Matcher promise = Pattern.compile("## Promise (\\d+): ([\\w ]+)\n(.*?)(?=\n## )", Pattern.DOTALL).matcher(doc);
        int promises = 0;
        while (promise.find()) {
            promises++;
            Matcher exception = Pattern.compile("\nThrows `(\\w+)`").matcher(promise.group(3));
            while (exception.find()) {
                String due = promise.group(1) + " " + promise.group(2) + " " + exception.group(1);
                if (!refused.contains(due)) {
                    fail(due, "no test asks for this");
                }
            }
        }
        if (promises != 46) {
            fail("DOC.md", "tells " + promises + " promises");
        }
    }

    void end() throws IOException {
        lookForEachException();
        System.out.println(wrong == 0 ? names.size() + " sentences hold" : wrong + " of " + names.size() + " fail");
        if (wrong != 0) {
            System.exit(1);
        }
    }
}
