/** Promises 37 to 42: maps and keys. */
public final class MapsTest {
    private static final Due DUE = new Due();

    public static void main(String[] args) {
        enter();
        strike();
        hasNumber();
        thingOf();
        numberAt();
        keepKeys();
        DUE.end();
    }

    private static void enter() {
        for (int slot = 2; slot < 4; slot++) {
            int s = slot;
            Viewhouse house = new Viewhouse();
            DUE.is("37: new", false, () -> house.enter(s, 9, 4, 1));
            DUE.is("37: new", false, () -> house.enter(s, Integer.MIN_VALUE, -999, 0));
            DUE.is("37: new", false, () -> house.enter(s, Integer.MAX_VALUE, 999, 99));
            DUE.is("37: new", false, () -> house.enter(s, 0, 1, 1));
            DUE.is("37: there", true, () -> house.enter(s, 9, 5, 2));
            DUE.is("37: its thing", 157, () -> house.thingOf(s, 9));
            String due = s == 2 ? "9 -2147483648 2147483647 0 " : "-2147483648 0 9 2147483647 ";
            DUE.is("37: the order", due, () -> Houses.numbers(house, s));
            house.strike(s, 9);
            house.enter(s, 9, 1, 1);
            String then = s == 2 ? "-2147483648 2147483647 0 9 " : due;
            DUE.is("37: the order, as it came again", then, () -> Houses.numbers(house, s));
            DUE.illegal("37: key 1000", house, () -> house.enter(s, 1, 1000, 1));
            DUE.illegal("37: key -1000", house, () -> house.enter(s, 9, -1000, 1));
            DUE.illegal("37: mark 100", house, () -> house.enter(s, 1, 1, 100));
            DUE.illegal("37: mark -1", house, () -> house.enter(s, 9, 1, -1));
            Viewhouse full = Houses.full();
            DUE.is("37: there, and full", true, () -> full.enter(s, 0, 7, 7));
            DUE.unready("37: full", full, () -> full.enter(s, 24, 7, 7));
            DUE.illegal("37: full, and no such key", full, () -> full.enter(s, 24, 1000, 7));
            full.fixed(4, s);
            DUE.fixed("37: full and fixed", full, () -> full.enter(4, 24, 1000, 7));
        }
        Viewhouse kinds = Houses.allKinds();
        for (int slot : new int[] {0, 1, 4, 5, 6, 7, 8, 9, 10}) {
            DUE.missing("37: slot " + slot, kinds, () -> kinds.enter(slot, 1, 1000, 1));
        }
        DUE.slotless("37: -1", kinds, () -> kinds.enter(-1, 1, 1000, 1));
        DUE.slotless("37: 12", kinds, () -> kinds.enter(12, 1, 1, 1));
    }

    private static void strike() {
        Viewhouse house = Houses.mapped(2, 9, 4, 1, 3, 6, 2, 5, 1, 1);
        house.keys(4, 2);
        house.values(5, 2);
        house.fixed(6, 2);
        DUE.is("38: of the map", true, () -> house.strike(2, 3));
        DUE.is("38: keys tell it", "9 5 ", () -> Houses.numbers(house, 4));
        DUE.is("38: values tell it", (7L * 31 + 125) * 31 + 32, () -> house.walk(5, false));
        DUE.is("38: the fixed map tells it", "9 5 ", () -> Houses.numbers(house, 6));
        DUE.is("38: not there", false, () -> house.strike(2, 3));
        DUE.is("38: of keys", true, () -> house.strike(4, 9));
        DUE.is("38: the map then", "5 ", () -> Houses.numbers(house, 2));
        DUE.is("38: not of keys", false, () -> house.strike(4, 9));
        house.keys(7, 6);
        DUE.fixed("38: of a fixed map, not there", house, () -> house.strike(6, 3));
        DUE.fixed("38: of fixed keys", house, () -> house.strike(7, 5));
        DUE.refusesNumberless(38, (house1, slot) -> house1.strike(slot, 9));
    }

    private static void hasNumber() {
        Viewhouse house = Houses.mapped(3, 9, 4, 1, -3, 6, 2);
        house.fixed(4, 3);
        house.keys(5, 4);
        for (int slot = 3; slot < 6; slot++) {
            int s = slot;
            DUE.is("39: there, slot " + s, true, () -> house.hasNumber(s, -3));
            DUE.is("39: not there, slot " + s, false, () -> house.hasNumber(s, 3));
        }
        DUE.is("39: of an empty map", false, () -> house.hasNumber(2, 0));
        DUE.refusesNumberless(39, (house1, slot) -> house1.hasNumber(slot, 9));
    }

    private static void thingOf() {
        Viewhouse house = Houses.mapped(3, 9, 4, 1, -3, -6, 2);
        house.fixed(4, 3);
        DUE.is("40: of a map", 125, () -> house.thingOf(3, 9));
        DUE.is("40: of a fixed map", -184, () -> house.thingOf(4, -3));
        DUE.illegal("40: none", house, () -> house.thingOf(3, 4));
        DUE.illegal("40: none in a fixed map", house, () -> house.thingOf(4, 125));
        DUE.illegal("40: of an empty map", house, () -> house.thingOf(2, 0));
        house.keys(5, 3);
        DUE.missing("40: of keys", house, () -> house.thingOf(5, 9));
        DUE.refusesNumberless(40, (house1, slot) -> house1.thingOf(slot, 4));
    }

    private static void numberAt() {
        Viewhouse house = Houses.mapped(2, 9, 4, 1, -3, -6, 2, 4, 1, 1);
        house.fixed(4, 2);
        house.keys(5, 4);
        for (int slot : new int[] {2, 4, 5}) {
            DUE.is("41: slot " + slot, "9 -3 4 ", () -> Houses.numbers(house, slot));
            DUE.illegal("41: place -1, slot " + slot, house, () -> house.numberAt(slot, -1));
            DUE.illegal("41: place 3, slot " + slot, house, () -> house.numberAt(slot, 3));
        }
        house.enter(3, 9, 1, 1);
        house.enter(3, -3, 1, 1);
        DUE.is("41: rising", -3, () -> house.numberAt(3, 0));
        DUE.refusesNumberless(41, (house1, slot) -> house1.numberAt(slot, -1));
    }

    private static void keepKeys() {
        Viewhouse house = Houses.mapped(2, 9, 4, 1, 3, 6, 2, 5, 1, 1, 7, 1, 1);
        house.enter(3, 3, 1, 1);
        house.enter(3, 7, 1, 1);
        house.enter(3, 8, 1, 1);
        house.keys(4, 2);
        house.fixed(5, 3);
        house.keys(6, 5);
        house.keys(7, 2);
        DUE.is("42: taken away", 2, () -> house.keepKeys(4, 6, false));
        DUE.is("42: the map then", "9 5 ", () -> Houses.numbers(house, 2));
        house.enter(2, 8, 0, 0);
        DUE.is("42: kept", 2, () -> house.keepKeys(4, 6, true));
        DUE.is("42: the map then", "8 ", () -> Houses.numbers(house, 2));
        DUE.is("42: kept, its own", 0, () -> house.keepKeys(4, 7, true));
        DUE.is("42: its own away", 1, () -> house.keepKeys(4, 7, false));
        DUE.is("42: of none", 0, () -> house.keepKeys(4, 6, true));
        DUE.fixed("42: fixed keys", house, () -> house.keepKeys(6, 6, true));
        house.values(8, 2);
        DUE.missing("42: of a map", house, () -> house.keepKeys(2, 4, true));
        DUE.missing("42: by a map", house, () -> house.keepKeys(4, 2, true));
        DUE.missing("42: of values", house, () -> house.keepKeys(8, 4, true));
        DUE.missing("42: by values", house, () -> house.keepKeys(4, 8, true));
        DUE.missing("42: of nothing", house, () -> house.keepKeys(11, 4, true));
        DUE.missing("42: fixed, by nothing", house, () -> house.keepKeys(6, 11, true));
        DUE.missing("42: of a list", house, () -> house.keepKeys(0, 4, true));
        DUE.slotless("42: -1", house, () -> house.keepKeys(-1, 11, true));
        DUE.slotless("42: 12, the other one", house, () -> house.keepKeys(11, 12, true));
    }
}
