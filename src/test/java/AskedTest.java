/** Promises 10 to 13: what is asked of all. */
public final class AskedTest {
    private static final Due DUE = new Due();

    public static void main(String[] args) {
        size();
        walk();
        isSame();
        hash();
        DUE.end();
    }

    private static void size() {
        Viewhouse house = Houses.allKinds();
        int[] sizes = {3, 0, 2, 0, 2, 3, 2, 1, 0, 2, 2, 2};
        for (int slot = 0; slot < 12; slot++) {
            int s = slot;
            DUE.is("10: size(" + s + ")", sizes[s], () -> house.size(s));
        }
        DUE.is("10: of a full list", 24, () -> Houses.full().size(0));
        DUE.slotless("10: -1", house, () -> house.size(-1));
        DUE.slotless("10: 12", house, () -> house.size(12));
        Viewhouse fresh = new Viewhouse();
        DUE.missing("10: of nothing", fresh, () -> fresh.size(4));
    }

    private static void walk() {
        Viewhouse house = Houses.allKinds();
        long forth = ((7L * 31 + 156) * 31 + 95) * 31 + 248;
        long back = ((7L * 31 + 248) * 31 + 95) * 31 + 156;
        DUE.is("11: a list", forth, () -> house.walk(0, false));
        DUE.is("11: a list, back", back, () -> house.walk(0, true));
        DUE.is("11: a part", (7L * 31 + 95) * 31 + 248, () -> house.walk(4, false));
        DUE.is("11: a part, back", (7L * 31 + 248) * 31 + 95, () -> house.walk(4, true));
        DUE.is("11: a fixed list, back", back, () -> house.walk(5, true));
        DUE.is("11: copies", (7L * 31 + 125) * 31 + 125, () -> house.walk(6, true));
        DUE.is("11: alone", 7L * 31 + 156, () -> house.walk(7, false));
        DUE.is("11: none", 7L, () -> house.walk(8, true));
        DUE.is("11: keys", (7L * 31 + 9) * 31 + 3, () -> house.walk(9, false));
        DUE.is("11: values", (7L * 31 + 125) * 31 + 188, () -> house.walk(10, false));
        long map = (((7L * 31 + 9) * 31 + 125) * 31 + 3) * 31 + 188;
        DUE.is("11: a map", map, () -> house.walk(2, false));
        DUE.is("11: a fixed map", map, () -> house.walk(11, false));
        long round = 7L;
        for (int i = 0; i < 24; i++) {
            round = 31 * round + 32L * i;
        }
        long gone = round;
        DUE.is("11: goes round", gone, () -> Houses.full().walk(0, false));
        DUE.is("11: of a thing below 0", 7L * 31 - 30969, () -> Houses.listed(-999, 0).walk(0, false));
        for (int slot : new int[] {2, 3, 9, 10, 11}) {
            DUE.illegal("11: back of no list, slot " + slot, house, () -> house.walk(slot, true));
        }
        DUE.slotless("11: -1", house, () -> house.walk(-1, true));
        DUE.slotless("11: 12", house, () -> house.walk(12, false));
        Viewhouse fresh = new Viewhouse();
        DUE.missing("11: of nothing, back", fresh, () -> fresh.walk(4, true));
    }

    private static void isSame() {
        Viewhouse house = Houses.allKinds();
        DUE.is("12: a list and a fixed one of it", true, () -> house.isSame(0, 5));
        DUE.is("12: a list and a part", false, () -> house.isSame(0, 4));
        DUE.is("12: two empty lists", true, () -> house.isSame(1, 8));
        DUE.is("12: an empty list and a longer one", false, () -> house.isSame(1, 0));
        DUE.is("12: itself", true, () -> house.isSame(4, 4));
        house.put(1, 0, 3, 2);
        house.put(1, 1, 8, 1);
        DUE.is("12: another mark", false, () -> house.isSame(1, 4));
        house.set(1, 1, 8, 0);
        DUE.is("12: alike at all places", true, () -> house.isSame(4, 1));
        house.swap(1, 0, 1);
        DUE.is("12: in another order", false, () -> house.isSame(4, 1));
        house.enter(3, 3, 6, 2);
        house.enter(3, 9, 4, 2);
        house.enter(2, 9, 4, 1);
        house.strike(2, 3);
        house.strike(3, 3);
        DUE.is("12: another thing, one number", false, () -> house.isSame(2, 3));
        house.wipe(3);
        house.enter(2, 3, 6, 2);
        house.enter(3, 3, 6, 2);
        DUE.is("12: a map with less", false, () -> house.isSame(2, 3));
        DUE.is("12: a map with more", false, () -> house.isSame(3, 2));
        house.enter(3, 9, 4, 1);
        DUE.is("12: maps in another order", true, () -> house.isSame(2, 3));
        DUE.is("12: a fixed map", true, () -> house.isSame(11, 3));
        house.keys(8, 3);
        DUE.is("12: keys in another order", true, () -> house.isSame(9, 8));
        house.enter(3, 9, 4, 2);
        DUE.is("12: another thing", false, () -> house.isSame(11, 3));
        DUE.is("12: keys tell no things", true, () -> house.isSame(8, 9));
        house.strike(3, 9);
        house.enter(3, 8, 4, 1);
        DUE.is("12: another number", false, () -> house.isSame(2, 3));
        DUE.is("12: other keys", false, () -> house.isSame(8, 9));
        // One more at the first place makes up for 31 less at the second one: hashes alone do not tell.
        Viewhouse alike = Houses.listed(0, 1, 1, 0);
        alike.put(1, 0, 0, 2);
        alike.put(1, 1, 0, 0);
        DUE.is("12: hashes are the same", alike.hash(0), () -> alike.hash(1));
        DUE.is("12: the lists are not", false, () -> alike.isSame(0, 1));
        Viewhouse things = Houses.listed(1, 0);
        things.put(1, 0, 0, 31);
        DUE.is("12: things with the same hash", false, () -> things.isSame(0, 1));
        DUE.slotless("12: -1", house, () -> house.isSame(-1, 0));
        DUE.slotless("12: 12, the other one", house, () -> house.isSame(0, 12));
        Viewhouse kinds = Houses.allKinds();
        int[][] pairs = {{0, 2}, {2, 0}, {9, 10}, {10, 10}, {9, 2}, {2, 10}, {0, 10}, {10, 0}, {0, 9}};
        for (int[] pair : pairs) {
            DUE.missing("12: slots " + pair[0] + ", " + pair[1], kinds, () -> kinds.isSame(pair[0], pair[1]));
        }
        Viewhouse fresh = new Viewhouse();
        DUE.missing("12: nothing", fresh, () -> fresh.isSame(0, 4));
        DUE.missing("12: nothing twice", fresh, () -> fresh.isSame(4, 4));
        DUE.slotless("12: nothing, and no such slot", fresh, () -> fresh.isSame(4, 12));
    }

    private static void hash() {
        Viewhouse house = Houses.allKinds();
        DUE.is("13: a list", ((31 + 156) * 31 + 95) * 31 + 248, () -> house.hash(0));
        DUE.is("13: a part", (31 + 95) * 31 + 248, () -> house.hash(4));
        DUE.is("13: a fixed list", house.hash(0), () -> house.hash(5));
        DUE.is("13: copies", (31 + 125) * 31 + 125, () -> house.hash(6));
        DUE.is("13: alone", 31 + 156, () -> house.hash(7));
        DUE.is("13: none", 1, () -> house.hash(8));
        DUE.is("13: an empty list", 1, () -> house.hash(1));
        DUE.is("13: keys", 12, () -> house.hash(9));
        DUE.is("13: a map", (9 ^ 125) + (3 ^ 188), () -> house.hash(2));
        DUE.is("13: a fixed map", (9 ^ 125) + (3 ^ 188), () -> house.hash(11));
        DUE.is("13: an empty map", 0, () -> house.hash(3));
        int round = 1;
        for (int i = 0; i < 24; i++) {
            round = 31 * round + 32 * i;
        }
        int gone = round;
        DUE.is("13: goes round", gone, () -> Houses.full().hash(0));
        Viewhouse far = Houses.mapped(3, Integer.MAX_VALUE, 1, 1, 5, 1, 1);
        far.keys(4, 3);
        DUE.is("13: keys go round", Integer.MAX_VALUE + 5, () -> far.hash(4));
        DUE.missing("13: values", house, () -> house.hash(10));
        DUE.missing("13: nothing", far, () -> far.hash(5));
        DUE.slotless("13: -1", house, () -> house.hash(-1));
        DUE.slotless("13: 12", house, () -> house.hash(12));
    }
}
