/** Promises 1 to 9: a new object, and what slots hold. */
public final class PanesTest {
    private static final Due DUE = new Due();

    public static void main(String[] args) {
        newObject();
        part();
        fixed();
        copies();
        alone();
        none();
        keys();
        values();
        kind();
        DUE.end();
    }

    private static void newObject() {
        Viewhouse house = new Viewhouse();
        DUE.is("1: kinds", "llmm--------", () -> Houses.kinds(house));
        for (int slot = 0; slot < 4; slot++) {
            int s = slot;
            DUE.is("1: size(" + s + ")", 0, () -> house.size(s));
        }
        DUE.is("1: isSound()", true, house::isSound);
    }

    private static void part() {
        Viewhouse house = Houses.listed(5, 1, 3, 2, 3, 1, 8, 0);
        DUE.is("2: part(4, 0, 1, 4)", 3, () -> house.part(4, 0, 1, 4));
        DUE.is("2: its things", "3/2 3/1 8/0 ", () -> Houses.things(house, 4));
        DUE.is("2: a part of a part", 2, () -> house.part(5, 4, 1, 3));
        DUE.is("2: its things", "3/1 8/0 ", () -> Houses.things(house, 5));
        DUE.is("2: the whole", 4, () -> house.part(6, 0, 0, 4));
        DUE.is("2: an empty one at the end", 0, () -> house.part(7, 0, 4, 4));
        DUE.is("2: of an empty list", 0, () -> house.part(8, 1, 0, 0));
        DUE.is("2: into its own slot", 1, () -> house.part(6, 6, 2, 3));
        DUE.is("2: its things", "3/1 ", () -> Houses.things(house, 6));
        DUE.slotless("2: slot 3", house, () -> house.part(3, 0, 0, 0));
        DUE.slotless("2: slot 12", house, () -> house.part(12, 0, 0, 0));
        DUE.slotless("2: of -1", house, () -> house.part(4, -1, 0, 0));
        DUE.slotless("2: of 12", house, () -> house.part(4, 12, 0, 0));
        DUE.missing("2: of a map", house, () -> house.part(4, 2, 0, 0));
        DUE.missing("2: of nothing", house, () -> house.part(4, 11, 0, 9));
        DUE.illegal("2: from -1", house, () -> house.part(4, 0, -1, 1));
        DUE.illegal("2: from above to", house, () -> house.part(4, 0, 2, 1));
        DUE.illegal("2: to above the size", house, () -> house.part(4, 0, 2, 5));
        DUE.illegal("2: to above the part's size", house, () -> house.part(6, 4, 0, 4));
        DUE.illegal("2: to the greatest int", house, () -> house.part(4, 0, 0, Integer.MAX_VALUE));
        Viewhouse kinds = Houses.allKinds();
        for (int slot = 5; slot < 12; slot++) {
            int s = slot;
            DUE.missing("2: of slot " + s + ", no list or part", kinds, () -> kinds.part(4, s, 0, 0));
        }
    }

    private static void fixed() {
        Viewhouse house = Houses.allKinds();
        DUE.is("3: of a list", 3, () -> house.fixed(5, 0));
        DUE.is("3: of a part", 2, () -> house.fixed(6, 4));
        DUE.is("3: of a map", 2, () -> house.fixed(7, 2));
        DUE.is("3: of an empty map", 0, () -> house.fixed(8, 3));
        DUE.is("3: kinds", "llmmpffFFkvF", () -> Houses.kinds(house));
        DUE.is("3: the part's things", "3/2 8/0 ", () -> Houses.things(house, 6));
        house.set(0, 1, 7, 7);
        DUE.is("3: tells changes", "7/7 8/0 ", () -> Houses.things(house, 6));
        DUE.is("3: into its own slot", 2, () -> house.fixed(4, 4));
        DUE.is("3: its things", "7/7 8/0 ", () -> Houses.things(house, 4));
        DUE.slotless("3: slot 3", house, () -> house.fixed(3, 0));
        DUE.slotless("3: slot 12", house, () -> house.fixed(12, 2));
        DUE.slotless("3: of 12", house, () -> house.fixed(4, 12));
        Viewhouse kinds = Houses.allKinds();
        for (int slot = 5; slot < 12; slot++) {
            int s = slot;
            DUE.missing("3: of slot " + s + ", fixed as it is", kinds, () -> kinds.fixed(4, s));
        }
        DUE.missing("3: of nothing", new Viewhouse(), () -> new Viewhouse().fixed(4, 5));
    }

    private static void copies() {
        Viewhouse house = new Viewhouse();
        DUE.is("4: three", 3, () -> house.copies(4, 3, 2, 1));
        DUE.is("4: their things", "2/1 2/1 2/1 ", () -> Houses.things(house, 4));
        DUE.is("4: none", 0, () -> house.copies(11, 0, -999, 0));
        DUE.is("4: 24", 24, () -> house.copies(5, 24, 999, 99));
        DUE.is("4: kinds", "llmmcc-----c", () -> Houses.kinds(house));
        DUE.slotless("4: slot 3", house, () -> house.copies(3, 1, 1, 1));
        DUE.slotless("4: slot 12, and too many", house, () -> house.copies(12, 25, 1, 1));
        DUE.illegal("4: -1", house, () -> house.copies(4, -1, 1, 1));
        DUE.illegal("4: 25", house, () -> house.copies(4, 25, 1, 1));
        DUE.illegal("4: key 1000", house, () -> house.copies(4, 1, 1000, 1));
        DUE.illegal("4: key -1000", house, () -> house.copies(4, 1, -1000, 1));
        DUE.illegal("4: mark 100", house, () -> house.copies(4, 1, 1, 100));
        DUE.illegal("4: mark -1", house, () -> house.copies(4, 0, 1, -1));
    }

    private static void alone() {
        Viewhouse house = new Viewhouse();
        DUE.is("5: its hash as a list", 31 + 63, () -> house.alone(5, 2, 1));
        DUE.is("5: its thing", "2/1 ", () -> Houses.things(house, 5));
        DUE.is("5: the least", 31 - 31 * 999, () -> house.alone(4, -999, 0));
        DUE.is("5: the greatest", 31 + 31 * 999 + 99, () -> house.alone(11, 999, 99));
        DUE.slotless("5: slot 2", house, () -> house.alone(2, 1, 1));
        DUE.slotless("5: slot 12, and no such key", house, () -> house.alone(12, 1000, 1));
        DUE.illegal("5: key 1000", house, () -> house.alone(4, 1000, 1));
        DUE.illegal("5: key -1000", house, () -> house.alone(4, -1000, 1));
        DUE.illegal("5: mark 100", house, () -> house.alone(4, 1, 100));
        DUE.illegal("5: mark -1", house, () -> house.alone(4, 1, -1));
    }

    private static void none() {
        Viewhouse house = new Viewhouse();
        DUE.is("6: itself", 1, () -> house.none(4));
        DUE.is("6: again", 1, () -> house.none(4));
        DUE.is("6: another one", 2, () -> house.none(11));
        DUE.is("6: size", 0, () -> house.size(11));
        house.part(5, 0, 0, 0);
        DUE.is("6: three", 3, () -> house.none(4));
        house.put(0, 0, 1, 1);
        DUE.is("6: a part that went does not count", 2, () -> house.none(4));
        DUE.slotless("6: slot 3", house, () -> house.none(3));
        DUE.slotless("6: slot 12", house, () -> house.none(12));
        DUE.slotless("6: slot -1", house, () -> house.none(-1));
    }

    private static void keys() {
        Viewhouse house = Houses.mapped(2, 9, 4, 1, 3, 6, 2);
        DUE.is("7: of a map", 2, () -> house.keys(4, 2));
        DUE.is("7: in its order", "9 3 ", () -> Houses.numbers(house, 4));
        DUE.is("7: of an empty map", 0, () -> house.keys(5, 3));
        house.fixed(6, 2);
        DUE.is("7: of a fixed map", 2, () -> house.keys(7, 6));
        house.enter(3, 7, 1, 1);
        house.enter(3, -7, 1, 1);
        DUE.is("7: rising", "-7 7 ", () -> Houses.numbers(house, 5));
        DUE.fixed("7: keys of a fixed map are fixed", house, () -> house.strike(7, 9));
        DUE.slotless("7: slot 3", house, () -> house.keys(3, 2));
        DUE.slotless("7: slot 12", house, () -> house.keys(12, 2));
        DUE.slotless("7: of 12", house, () -> house.keys(4, 12));
        refuseOtherThanMaps(7, true);
    }

    private static void values() {
        Viewhouse house = Houses.mapped(3, 9, 4, 1, 3, 6, 2);
        DUE.is("8: of a map", 2, () -> house.values(4, 3));
        DUE.is("8: in its order", (7L * 31 + 188) * 31 + 125, () -> house.walk(4, false));
        house.fixed(6, 3);
        DUE.is("8: of a fixed map", 2, () -> house.values(7, 6));
        DUE.is("8: taken from", 1, () -> house.strip(4, 3));
        DUE.is("8: tell that", 1, () -> house.size(7));
        DUE.fixed("8: values of a fixed map are fixed", house, () -> house.strip(7, 2));
        DUE.slotless("8: slot 3", house, () -> house.values(3, 2));
        DUE.slotless("8: slot 12", house, () -> house.values(12, 2));
        DUE.slotless("8: of -1", house, () -> house.values(4, -1));
        refuseOtherThanMaps(8, false);
    }

    private static void refuseOtherThanMaps(int promise, boolean isKeys) {
        Viewhouse kinds = Houses.allKinds();
        for (int slot : new int[] {0, 1, 4, 5, 6, 7, 8, 9, 10}) {
            DUE.missing(promise + ": of slot " + slot, kinds, () -> isKeys ? kinds.keys(4, slot) : kinds.values(4, slot));
        }
        Viewhouse fresh = new Viewhouse();
        DUE.missing(promise + ": of nothing", fresh, () -> isKeys ? fresh.keys(4, 5) : fresh.values(4, 5));
    }

    private static void kind() {
        Viewhouse house = Houses.allKinds();
        String kinds = "llmmpfcaekvF";
        for (int slot = 0; slot < 12; slot++) {
            int s = slot;
            DUE.is("9: kind(" + s + ")", kinds.charAt(s), () -> house.kind(s));
        }
        DUE.is("9: of nothing", '-', () -> new Viewhouse().kind(4));
        DUE.slotless("9: -1", house, () -> house.kind(-1));
        DUE.slotless("9: 12", house, () -> house.kind(12));
    }
}
