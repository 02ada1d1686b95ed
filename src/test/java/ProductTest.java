import java.util.ArrayList;
import java.util.Arrays;
import java.util.List;

/**
 * Makes each call with each choice of arguments at and beside the document's bounds, of houses with all kinds of
 * panes, and holds answers, exceptions and checksums against the model's: so that each two exceptions that can be due
 * in one call are due in one.
 */
public final class ProductTest {
    private static final String[] HOUSES = {
        "",
        Edges.KINDS,
        Edges.HOLLOW,
        Edges.FULL + "part 4 0 3 5; part 5 4 0 2; fixed 6 0; fixed 7 4;" + Edges.numbers(2, 1, 24) + Edges.numbers(3, 1, 24)
            + "keys 8 2; values 9 3; fixed 10 3;",
        "put 0 0 4 1; put 0 1 9 99; put 0 2 4 1; put 0 3 999 0; part 4 0 1 4; part 5 4 0 2; enter 2 9 4 1; enter 2 3 4 1;"
            + "enter 3 3 4 1; enter 3 -1 9 99; values 6 2; keys 7 3; values 8 3; fixed 9 3; keys 10 9; values 11 9;",
    };

    private static final int MOST_CALLS = 512;
    private static final int[] SLOTS = {-1, 0, 1, 2, 3, 4, 5, 6, 7, 8, 9, 10, 11, 12};
    private static final int[] PLACES = {Integer.MIN_VALUE, -1, 0, 1, 2, 3, 4, 24, 25, Integer.MAX_VALUE};
    private static final int[] COUNTS = {Integer.MIN_VALUE, -1, 0, 1, 24, 25, Integer.MAX_VALUE};
    private static final int[] KEYS = {Integer.MIN_VALUE, -1000, -999, 4, 9, 999, 1000, Integer.MAX_VALUE};
    private static final int[] MARKS = {-1, 0, 1, 99, 100, Integer.MAX_VALUE};
    private static final int[] NUMBERS = {Integer.MIN_VALUE, -1, 0, 3, 9, 24, 25, Integer.MAX_VALUE};
    private static final int[] STRIPS = {Integer.MIN_VALUE, -2, 0, 1, 2, 3, 9, 10};
    private static final int[] RAISES = {Integer.MIN_VALUE, -10, -9, 0, 9, 10, Integer.MAX_VALUE};
    private static final int[] ROTATES = {Integer.MIN_VALUE, -101, -100, 0, 1, 100, 101, Integer.MAX_VALUE};

    private final Calls ours = new Calls(Viewhouse.class);
    private final Calls theirs = new Calls(Model.class);
    private Viewhouse house;
    private Model model;
    /** How many calls the house has had: what it answers after the 512th one is free. */
    private int used;
    private long before;
    private int made;
    private int wrong;

    public static void main(String[] args) {
        ProductTest test = new ProductTest();
        for (String told : HOUSES) {
            test.build(told);
            for (String row : RandomTest.TABLE) {
                String[] split = row.split(" ");
                test.choose(told, split[0], split[2].equals("-") ? "" : split[2], new ArrayList<>());
            }
        }
        System.out.println(test.wrong == 0 ? test.made + " calls are alike" : test.wrong + " of " + test.made + " are not");
        if (test.wrong != 0) {
            System.exit(1);
        }
    }

    private void build(String told) {
        house = new Viewhouse();
        model = new Model();
        used = 0;
        for (String call : told.split(";")) {
            if (!call.isBlank()) {
                String[] words = call.strip().split(" +");
                Object[] args = new Object[words.length - 1];
                for (int i = 0; i < args.length; i++) {
                    args[i] = Integer.parseInt(words[i + 1]);
                }
                used++;
                ours.made(words[0], house, args);
                theirs.made(words[0], model, args);
            }
        }
        used++;
        before = house.checksum();
    }

    private void choose(String told, String name, String kinds, List<Object> chosen) {
        if (chosen.size() == kinds.length()) {
            hold(told, name, chosen.toArray());
            return;
        }
        for (Object one : choices(kinds.charAt(chosen.size()))) {
            chosen.add(one);
            choose(told, name, kinds, chosen);
            chosen.remove(chosen.size() - 1);
        }
    }

    private static Object[] choices(char kind) {
        switch (kind) {
            case 'P':
            case 'S':
            case 'L':
            case 'M':
                return boxed(SLOTS);
            case 'i':
                return boxed(PLACES);
            case 'n':
                return boxed(COUNTS);
            case 'k':
                return boxed(KEYS);
            case 'm':
                return boxed(MARKS);
            case 'b':
                return new Object[] {false, true};
            case 'w':
                return new Object[] {'k', 'K', 'm', 'M', 'l', (char) 0, (char) 65535};
            case 'x':
                return boxed(NUMBERS);
            case 's':
                return boxed(STRIPS);
            case 'r':
                return boxed(RAISES);
            default:
                return boxed(ROTATES);
        }
    }

    private static Object[] boxed(int[] numbers) {
        return Arrays.stream(numbers).boxed().toArray();
    }

    private void hold(String told, String name, Object[] args) {
        made++;
        used += 2;
        Object got = ours.made(name, house, args);
        Object want = theirs.made(name, model, args);
        long after = house.checksum();
        boolean isRefused = want instanceof Class;
        if (!want.equals(got) || after != model.checksum() || isRefused && after != before) {
            wrong++;
            System.out.println(told + name + Arrays.toString(args) + " answered " + got + ", due is " + want
                    + ", checksums " + after + ", due " + model.checksum());
        }
        if (!isRefused || wrong > 0 || used + 2 > MOST_CALLS) {
            build(told);
        }
    }
}
