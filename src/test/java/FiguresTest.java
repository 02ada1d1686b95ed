/** Promises 43 to 46: figures. */
public final class FiguresTest {
    private static final Due DUE = new Due();

    public static void main(String[] args) {
        share();
        meanKey();
        checksum();
        isSound();
        DUE.end();
    }

    private static void share() {
        Viewhouse house = Houses.listed(1, 1, 0, 1, -1, 1);
        DUE.is("43: a third", 1f / 3f, () -> house.share(0));
        house.part(4, 0, 1, 3);
        DUE.is("43: none", 0f, () -> house.share(4));
        house.copies(5, 24, 1, 0);
        DUE.is("43: all", 1f, () -> house.share(5));
        house.enter(2, -1, 3, 3);
        house.enter(2, 2, 0, 3);
        house.values(6, 2);
        DUE.is("43: values", 0.5f, () -> house.share(6));
        refusals(43, Viewhouse::share);
    }

    private static void meanKey() {
        Viewhouse house = Houses.listed(1, 1, 0, 1, -5, 1);
        DUE.is("44: below 0", -4.0 / 3.0, () -> house.meanKey(0));
        house.copies(5, 24, 999, 0);
        DUE.is("44: copies", 999.0, () -> house.meanKey(5));
        house.enter(2, 77, 3, 3);
        house.enter(2, 88, 0, 3);
        house.values(6, 2);
        DUE.is("44: values", 1.5, () -> house.meanKey(6));
        refusals(44, Viewhouse::meanKey);
    }

    private interface Figure {
        Object of(Viewhouse house, int slot);
    }

    private static void refusals(int promise, Figure figure) {
        Viewhouse kinds = Houses.allKinds();
        DUE.refuses(promise + ": none", ArithmeticException.class, kinds, () -> figure.of(kinds, 8));
        DUE.refuses(promise + ": an empty list", ArithmeticException.class, kinds, () -> figure.of(kinds, 1));
        kinds.values(4, 3);
        DUE.refuses(promise + ": no values", ArithmeticException.class, kinds, () -> figure.of(kinds, 4));
        for (int slot : new int[] {2, 3, 9, 11}) {
            DUE.missing(promise + ": slot " + slot, kinds, () -> figure.of(kinds, slot));
        }
        Viewhouse fresh = new Viewhouse();
        DUE.missing(promise + ": nothing", fresh, () -> figure.of(fresh, 4));
        DUE.slotless(promise + ": -1", fresh, () -> figure.of(fresh, -1));
        DUE.slotless(promise + ": 12", fresh, () -> figure.of(fresh, 12));
    }

    private static void checksum() {
        long fresh = 7;
        for (int slot = 0; slot < 12; slot++) {
            fresh = 31 * fresh + "llmm--------".charAt(slot);
            fresh = slot < 4 ? 31 * fresh : fresh;
        }
        long due = fresh;
        DUE.is("45: a new object", due, () -> new Viewhouse().checksum());
        Viewhouse house = Houses.allKinds();
        long[][] told = {{156, 95, 248}, {}, {9, 125, 3, 188}, {}, {95, 248}, {156, 95, 248}, {125, 125}, {156}, {},
            {9, 3}, {125, 188}, {9, 125, 3, 188}};
        long sum = 7;
        for (int slot = 0; slot < 12; slot++) {
            sum = 31 * (31 * sum + house.kind(slot)) + house.size(slot);
            for (long one : told[slot]) {
                sum = 31 * sum + one;
            }
        }
        long all = sum;
        DUE.is("45: of all kinds", all, house::checksum);
        DUE.is("45: again", all, house::checksum);
    }

    private static void isSound() {
        DUE.is("46: a new object", true, () -> new Viewhouse().isSound());
        Viewhouse kinds = Houses.allKinds();
        long before = kinds.checksum();
        DUE.is("46: all kinds", true, kinds::isSound);
        DUE.is("46: nothing is changed", before, kinds::checksum);
        Viewhouse full = Houses.full();
        full.part(4, 0, 1, 24);
        full.part(5, 4, 3, 9);
        full.keys(6, 3);
        full.values(7, 2);
        full.sort(1, 'K');
        DUE.is("46: full", true, full::isSound);
        DUE.is("46: parts stay", "llmmppkv----", () -> Houses.kinds(full));
    }
}
