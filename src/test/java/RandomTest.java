import java.lang.reflect.Method;
import java.util.Map;
import java.util.Random;
import java.util.Set;
import java.util.TreeMap;

/**
 * Makes the same calls, told by a fixed seed, of Viewhouse and of the model on the language's library, and holds
 * each answer against the other one, and in most runs the checksum after it. Fails too if some exception never came up.
 */
public final class RandomTest {
    private static final int RUNS = 2400;
    /** All calls of one house, those of checksum() too: what later ones answer is free. */
    private static final int CALLS = 512;

    /**
     * A call's name, how often it is made, and its arguments: P slot of panes, S slot, L slot of a list, M slot of a
     * map, i place, n how many, k key, m mark, b yes or no, w way, x number, s strip, r raise, o rotate.
     */
    static final String[] TABLE = {
        "part 9 PLii", "fixed 3 PS", "copies 1 Pnkm", "alone 1 Pkm", "none 1 P", "keys 2 PM", "values 2 PM", "kind 1 S",
        "size 1 S", "walk 3 Sb", "isSame 4 SS", "hash 2 S",
        "keyAt 1 Si", "markAt 1 Si", "placeOf 2 Skmb", "put 16 Likm", "set 3 Likm", "take 3 Li", "drop 3 Skm",
        "wipe 1 S", "putAll 4 LiS", "keep 2 SSb", "strip 1 Ss", "weave 2 Lkm", "raise 2 Sr",
        "sort 2 Lw", "search 3 Sk", "turn 2 L", "swap 2 Lii", "rotate 2 Lo", "fill 1 Lkm", "rowIn 4 SSb",
        "often 2 Skm", "areApart 3 SS", "end 2 Sb",
        "enter 14 Mxkm", "strike 3 Sx", "hasNumber 2 Sx", "thingOf 2 Sx", "numberAt 2 Si", "keepKeys 2 SSb",
        "share 2 S", "meanKey 2 S", "checksum 1 -", "isSound 1 -",
    };

    private static final Set<String> RARE = Set.of("wipe", "strip", "keep", "keepKeys", "strike", "drop", "take");

    private final Map<String, Integer> seen = new TreeMap<>();
    private final Calls ours = new Calls(Viewhouse.class);
    private final Calls theirs = new Calls(Model.class);

    public static void main(String[] args) {
        RandomTest test = new RandomTest();
        for (int run = 0; run < RUNS; run++) {
            if (!test.isRunAlike(run)) {
                System.exit(1);
            }
        }
        if (!test.isAllSeen()) {
            System.exit(1);
        }
        System.out.println(RUNS + " runs of " + CALLS + " calls are alike");
    }

    private boolean isRunAlike(int run) {
        Random random = new Random(run);
        Viewhouse house = new Viewhouse();
        Model model = new Model();
        StringBuilder told = new StringBuilder();
        // Few checksums leave room for more of the other calls.
        int callsToChecksum = run % 5 == 0 ? 20 : 1;
        int made = 0;
        int used = 0;
        while (used < CALLS) {
            String[] row = choose(random, run);
            Object[] args = arguments(random, run, row[2]);
            Object got = ours.made(row[0], house, args);
            Object want = theirs.made(row[0], model, args);
            told.append(row[0]).append(java.util.Arrays.toString(args)).append(" -> ").append(got).append('\n');
            used++;
            made++;
            boolean isAlike = want.equals(got);
            if (isAlike && made % callsToChecksum == 0 && used < CALLS) {
                used++;
                isAlike = house.checksum() == model.checksum();
            }
            if (!isAlike) {
                System.out.println(told + "run " + run + ": due is " + want + ", or another checksum");
                return false;
            }
            seen.merge(row[0] + " " + (got instanceof Class ? ((Class<?>) got).getSimpleName() : "answers"), 1, Integer::sum);
        }
        return true;
    }

    /** Runs with odd numbers take little away, so that lists and maps get full. */
    private static String[] choose(Random random, int run) {
        int all = 0;
        for (String row : TABLE) {
            all += Integer.parseInt(row.split(" ")[1]);
        }
        while (true) {
            int left = random.nextInt(all);
            for (String row : TABLE) {
                String[] split = row.split(" ");
                left -= Integer.parseInt(split[1]);
                if (left < 0) {
                    if (run % 2 == 1 && RARE.contains(split[0]) && random.nextInt(12) != 0) {
                        break;
                    }
                    return split;
                }
            }
        }
    }

    private static Object[] arguments(Random random, int run, String kinds) {
        if (kinds.equals("-")) {
            return new Object[0];
        }
        Object[] args = new Object[kinds.length()];
        for (int i = 0; i < args.length; i++) {
            args[i] = argument(random, run, kinds.charAt(i));
        }
        return args;
    }

    private static Object argument(Random random, int run, char kind) {
        boolean isOdd = random.nextInt(40) == 0;
        int most = run % 3 == 0 ? 2 : 6;
        switch (kind) {
            case 'P':
                return isOdd ? odd(random, 3, 12) : 4 + random.nextInt(8);
            case 'S':
                return isOdd ? odd(random, -1, 12) : random.nextInt(12);
            case 'L':
                return isOdd ? odd(random, -1, 12) : random.nextInt(3) == 0 ? random.nextInt(2) : 4 + random.nextInt(8);
            case 'M':
                return isOdd ? odd(random, -1, 12) : random.nextInt(3) == 0 ? random.nextInt(12) : 2 + random.nextInt(2);
            case 'i':
                return isOdd ? odd(random, -1, 25) : random.nextInt(random.nextBoolean() ? 5 : 20);
            case 'n':
                return isOdd ? odd(random, -1, 25) : random.nextInt(random.nextBoolean() ? 4 : 25);
            case 'k':
                return isOdd ? odd(random, -1000, 1000) : random.nextInt(60) == 0 ? (random.nextBoolean() ? 999 : -999)
                        : random.nextInt(2 * most) - most / 2;
            case 'm':
                return isOdd ? odd(random, -1, 100) : random.nextInt(60) == 0 ? 99 : random.nextInt(most);
            case 'b':
                return random.nextBoolean();
            case 'w':
                return isOdd ? (char) random.nextInt(256) : "kKmM".charAt(random.nextInt(4));
            case 'x':
                return isOdd ? random.nextInt() : random.nextInt(run % 4 == 1 ? 90 : 30) - 5;
            case 's':
                return isOdd ? odd(random, 1, 10) : 2 + random.nextInt(8);
            case 'r':
                return isOdd ? odd(random, -10, 10) : random.nextInt(19) - 9;
            default:
                return isOdd ? odd(random, -101, 101) : random.nextInt(201) - 100;
        }
    }

    private static int odd(Random random, int below, int above) {
        int[] some = {below, above, Integer.MIN_VALUE, Integer.MAX_VALUE};
        return some[random.nextInt(some.length)];
    }

    private boolean isAllSeen() {
        boolean isAll = true;
        for (Method method : ours.all()) {
            isAll &= isSeen(method.getName() + " answers");
            for (Class<?> thrown : method.getExceptionTypes()) {
                isAll &= isSeen(method.getName() + " " + thrown.getSimpleName());
            }
        }
        return isAll;
    }

    private boolean isSeen(String what) {
        if (!seen.containsKey(what)) {
            System.out.println("never came up: " + what);
        }
        return seen.containsKey(what);
    }
}
